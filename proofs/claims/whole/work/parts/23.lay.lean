/-! THE LAYOUT of a rule on a scope, and the class's loops for it -/
def spS (num : Nat) (pt : Nat → PD) : Int := sumN num (fun i => psz (pt i))
def spA (num : Nat) (pt : Nat → PD) : Int := sumN num (fun i => pshr (pt i))
def spCut (num : Nat) (pt : Nat → PD) (W : Int) (i : Nat) : Int := if spA num pt = 0 then 0 else (W - spS num pt) * pshr (pt i) / spA num pt
def spOver (num : Nat) (pt : Nat → PD) (W : Int) : Int := W - spS num pt - sumN num (spCut num pt W)
def spNsh (pt : Nat → PD) (i : Nat) : Int := sumN i (fun j => if (pt j).2.2 then 1 else 0)
def spExt (num : Nat) (pt : Nat → PD) (W : Int) (i : Nat) : Int := if (pt i).2.2 = true ∧ spNsh pt i < spOver num pt W then 1 else 0
def spLen (num : Nat) (pt : Nat → PD) (W : Int) (i : Nat) : Int := psz (pt i) + spCut num pt W i + spExt num pt W i
def spPre (num : Nat) (pt : Nat → PD) (W : Int) : Prop := 0 ≤ W - spS num pt ∧ (spA num pt = 0 → W - spS num pt = 0)
def spFits (num : Nat) (pt : Nat → PD) (W : Int) : Prop := spPre num pt W ∧ ∀ i, i < num → 1 ≤ spLen num pt W i
def rpN (z W : Int) : Nat := (W / z).toNat
def rpLen (z W : Int) (i : Nat) : Int := W / (rpN z W : Int) + (if (i : Int) < W % (rpN z W : Int) then 1 else 0)
abbrev rAl (d : RD) : Prop := rk d = 2 ∨ rk d = 4
def rLn (d : RD) (w h : Int) : Int := if rk d = 2 ∨ rk d = 4 then h else w
def rAdm (d : RD) (w h : Int) : Prop := (rfw d ≤ w ∧ w ≤ rtw d) ∧ rfh d ≤ h ∧ h ≤ rth d
def holdsF (d : RD) (w h : Int) : Prop := rAdm d w h ∧ (rk d = 0 ∨ (rk d ≠ 0 ∧ rk d < 3 ∧ spFits (rm d) (rp d) (rLn d w h)) ∨ (3 ≤ rk d ∧ (rp d 0).2.1 ≤ rLn d w h))
def pcN (d : RD) (w h : Int) : Nat := if rk d = 0 then 0 else if rk d < 3 then rm d else rpN (rp d 0).2.1 (rLn d w h)
def pcNm (d : RD) (i : Nat) : Int := if rk d < 3 then (rp d i).1 else (rp d 0).1
def pcL (d : RD) (w h : Int) (i : Nat) : Int := if rk d < 3 then spLen (rm d) (rp d) (rLn d w h) i else rpLen (rp d 0).2.1 (rLn d w h) i
def pcB (d : RD) (w h : Int) (i : Nat) : Int := sumN i (pcL d w h)
theorem sumN_0 {n : Nat} {f : Nat → Int} (h : ∀ i, i < n → f i = 0) : sumN n f = 0 := by
  induction n with
  | zero => rfl
  | succ n ih => show sumN n f + f n = 0; rw [ih fun i hi => h i (by omega), h n (by omega)]; rfl
theorem sumN_mul_le {n : Nat} {f g : Nat → Int} {A L : Int} (h : ∀ i, i < n → A * f i ≤ L * g i) : A * sumN n f ≤ L * sumN n g := by
  induction n with
  | zero => simp [sumN]
  | succ n ih =>
    show A * (sumN n f + f n) ≤ L * (sumN n g + g n)
    have h1 := ih fun i hi => h i (by omega)
    have h2 := h n (by omega)
    rw [Int.mul_add, Int.mul_add]
    omega
theorem sumN_term {n i : Nat} {f : Nat → Int} (h : ∀ i, i < n → 0 ≤ f i) (hi : i < n) : f i ≤ sumN n f := by
  induction n with
  | zero => omega
  | succ n ih =>
    show f i ≤ sumN n f + f n
    have h2 := h n (by omega)
    by_cases e : i = n
    · subst e
      have : 0 ≤ sumN i f := by
        clear ih
        induction i with
        | zero => simp [sumN]
        | succ k ik => show 0 ≤ sumN k f + f k; have := ik (fun j hj => h j (by omega)) (by omega) (h k (by omega)); have := h k (by omega); omega
      omega
    · have := ih (fun j hj => h j (by omega)) (by omega); omega
section SP
variable {num : Nat} {pt : Nat → PD} {W : Int}
theorem spA_nn (ho : ∀ i, i < num → okP (pt i)) : 0 ≤ spA num pt ∧ spA num pt ≤ num * 9 := sumN_le fun i hi => okP_shr (ho i hi)
theorem spS_nn (ho : ∀ i, i < num → okP (pt i)) : 0 ≤ spS num pt ∧ spS num pt ≤ num * 20 := sumN_le fun i hi => okP_sz (ho i hi)
theorem spCut_b (ho : ∀ i, i < num → okP (pt i)) (hp : spPre num pt W) {i : Nat} (hi : i < num) : 0 ≤ spCut num pt W i ∧ spCut num pt W i ≤ W - spS num pt := by
  unfold spCut
  split
  · exact ⟨by omega, hp.1⟩
  · rename_i hA
    have h1 := spA_nn ho
    have h2 := okP_shr (ho i hi)
    have h3 : pshr (pt i) ≤ spA num pt := sumN_term (f := fun i => pshr (pt i)) (fun j hj => (okP_shr (ho j hj)).1) hi
    have h4 : 0 ≤ (W - spS num pt) * pshr (pt i) := Int.mul_nonneg hp.1 h2.1
    refine ⟨Int.ediv_nonneg h4 h1.1, ?_⟩
    apply Int.ediv_le_of_le_mul (by omega)
    exact Int.mul_le_mul_of_nonneg_left h3 hp.1
theorem spOver_nn (ho : ∀ i, i < num → okP (pt i)) (hp : spPre num pt W) : 0 ≤ spOver num pt W := by
  unfold spOver
  by_cases hA : spA num pt = 0
  · rw [sumN_0 fun i hi => by unfold spCut; rw [if_pos hA]]
    have := hp.1
    omega
  · have h1 := spA_nn ho
    have h2 : spA num pt * sumN num (spCut num pt W) ≤ (W - spS num pt) * sumN num (fun i => pshr (pt i)) := sumN_mul_le fun i hi => by
      unfold spCut
      rw [if_neg hA]
      exact Int.mul_ediv_self_le hA
    have h3 : sumN num (fun i => pshr (pt i)) = spA num pt := rfl
    rw [h3, Int.mul_comm (W - spS num pt)] at h2
    have h4 := Int.le_of_mul_le_mul_left h2 (by omega)
    omega
theorem spNsh_b (i : Nat) : 0 ≤ spNsh pt i ∧ spNsh pt i ≤ i * 1 := sumN_le fun j _ => by split <;> omega
theorem spNsh_s (i : Nat) : spNsh pt (i + 1) = spNsh pt i + (if (pt i).2.2 then 1 else 0) := rfl
theorem spNsh_mono {i j : Nat} (h : i ≤ j) : spNsh pt i ≤ spNsh pt j := by
  induction j with
  | zero => rw [show i = 0 by omega]; exact Int.le_refl _
  | succ j ih =>
    by_cases e : i = j + 1
    · rw [e]; exact Int.le_refl _
    · have := ih (by omega)
      rw [spNsh_s]
      split <;> omega
theorem spExt_b (i : Nat) : 0 ≤ spExt num pt W i ∧ spExt num pt W i ≤ 1 := by unfold spExt; split <;> omega
theorem spLen_b (ho : ∀ i, i < num → okP (pt i)) (hp : spPre num pt W) (hW : W ≤ 20) {i : Nat} (hi : i < num) : 0 ≤ spLen num pt W i ∧ spLen num pt W i ≤ 41 := by
  unfold spLen
  have h1 := okP_sz (ho i hi)
  have h2 := spCut_b ho hp hi
  have h3 := spExt_b (num := num) (pt := pt) (W := W) i
  have h4 := spS_nn ho
  omega
end SP
section LY
variable {sh : List (Nat × Nat)} {ν : Nat → Nat → Option Nat} {μ : Nat → Nat → Int} {f s : Nat} {Q : xQ}
theorem c_X5_laid (hW : WF sh ν f s) {N : Nat} {len : Nat → Int} (hN : N ≤ 20) (e : μ 207 3 = N) (hl : ∀ i, i < N → μ 210 i = len i ∧ 0 ≤ len i ∧ len i ≤ 41)
    (k1 : (∀ i, i < N → 1 ≤ len i) → ∀ μ' : Nat → Nat → Int, (∀ i, i < N → μ' 209 i = sumN i len) → (∀ b, b ≠ 209 → μ' b = μ b) → Q (some (vI 1)) sh ν μ')
    (k0 : ¬ (∀ i, i < N → 1 ≤ len i) → ∀ μ' : Nat → Nat → Int, (∀ b, b ≠ 209 → μ' b = μ b) → Q (some (vI 0)) sh ν μ') : X mX5_laidOneAfterAnother 0 [(0, vR 207)] [] sh ν μ 0 0 Q := by
  refine g_X5_laidOneAfterAnother_0 hW ?_
  refine loop_up N (fun i m => (∀ b, b ≠ 209 → m b = μ b) ∧ (∀ j, j < i → m 209 j = sumN j len ∧ 1 ≤ len j)) (fun i m => X mX5_laidOneAfterAnother 4 [(0, vR 207), (1, vI (sumN i len)), (2, vI (i : Nat))] [] sh ν m 0 0 Q) ?_ ?_ 0 μ (Nat.zero_le _) ⟨fun _ _ => rfl, fun j hj => absurd hj (Nat.not_lt_zero j)⟩
  · rintro m ⟨h1, h2⟩
    have e0 : m 207 3 = N := by rw [h1 207 (by omega)]; exact e
    refine g_X5_laidOneAfterAnother_4 hW ⟨fun _ => k1 (fun i hi => (h2 i hi).2) m (fun i hi => (h2 i hi).1) h1, fun h => absurd h (by omega)⟩
  · rintro i m hi ⟨h1, h2⟩ ih
    have e0 : m 207 3 = N := by rw [h1 207 (by omega)]; exact e
    have el : m 210 i = len i := by rw [h1 210 (by omega)]; exact (hl i hi).1
    have hb := sumN_le (n := i) (f := len) (m := 41) fun j hj => (hl j (by omega)).2
    have hli := (hl i hi).2
    refine g_X5_laidOneAfterAnother_4 hW ⟨fun h => absurd h (by omega), fun _ => ⟨by omega, ?_⟩⟩
    rw [Int.toNat_natCast, el]
    refine ⟨fun h1l => ⟨by omega, by omega, ?_⟩, fun hlt => k0 (fun q => by have := q i hi; omega) m h1⟩
    rw [wi1 (by omega), w32_id (by omega) (by omega)]
    refine ih _ ⟨fun b hb => by rw [up_o' hb]; exact h1 b hb, fun j hj => ?_⟩
    by_cases hji : j = i
    · subst hji; rw [up_s]; exact ⟨rfl, h1l⟩
    · rw [up_k' hji]; exact h2 j (by omega)
end LY
