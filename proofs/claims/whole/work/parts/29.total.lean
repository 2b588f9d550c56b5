/-! the pieces cover the whole -/
theorem sumN_add {n : Nat} {f g : Nat → Int} : sumN n (fun i => f i + g i) = sumN n f + sumN n g := by
  induction n with
  | zero => rfl
  | succ n ih => show sumN n (fun i => f i + g i) + (f n + g n) = (sumN n f + f n) + (sumN n g + g n); rw [ih]; omega
theorem sumN_mulc {n : Nat} {c : Int} {f : Nat → Int} : sumN n (fun i => c * f i) = c * sumN n f := by
  induction n with
  | zero => show (0 : Int) = c * 0; rw [Int.mul_zero]
  | succ n ih => show sumN n (fun i => c * f i) + c * f n = c * (sumN n f + f n); rw [ih, Int.mul_add]
theorem sumN_mono {n : Nat} {f g : Nat → Int} (h : ∀ i, i < n → f i ≤ g i) : sumN n f ≤ sumN n g := by
  induction n with
  | zero => exact Int.le_refl _
  | succ n ih =>
    show sumN n f + f n ≤ sumN n g + g n
    have h1 := ih fun i hi => h i (by omega)
    have h2 := h n (by omega)
    omega
theorem sumN_front {n : Nat} {f : Nat → Int} : sumN (n + 1) f = f 0 + sumN n (fun i => f (i + 1)) := by
  induction n with
  | zero => show 0 + f 0 = f 0 + 0; omega
  | succ n ih =>
    show sumN (n + 1) f + f (n + 1) = f 0 + (sumN n (fun i => f (i + 1)) + f (n + 1))
    rw [ih]; omega
theorem sumN_rev {n : Nat} {f : Nat → Int} : sumN n (fun i => f (n - 1 - i)) = sumN n f := by
  induction n with
  | zero => rfl
  | succ n ih =>
    rw [sumN_front]
    show f (n + 1 - 1 - 0) + _ = sumN n f + f n
    rw [show n + 1 - 1 - 0 = n by omega, ← ih, sumN_congr (n := n) (f := fun i => f (n + 1 - 1 - (i + 1))) (g := fun i => f (n - 1 - i)) fun i hi => by rw [show n + 1 - 1 - (i + 1) = n - 1 - i by omega]]
    omega
theorem sumN_nn {n : Nat} {f : Nat → Int} (h : ∀ i, i < n → 0 ≤ f i) : 0 ≤ sumN n f := by
  have := sumN_mono (n := n) (f := fun _ => 0) (g := f) h
  rw [sumN_0 fun _ _ => rfl] at this
  exact this
theorem sumN_find {n : Nat} {len : Nat → Int} {t : Int} (h0 : 0 ≤ t) (h : t < sumN n len) : ∃ i, i < n ∧ sumN i len ≤ t ∧ t < sumN i len + len i := by
  induction n with
  | zero => exact absurd h (by show ¬ (t < 0); omega)
  | succ n ih =>
    by_cases q : t < sumN n len
    · obtain ⟨i, hi, h1, h2⟩ := ih q
      exact ⟨i, by omega, h1, h2⟩
    · exact ⟨n, by omega, by omega, h⟩
section TO
variable {num : Nat} {pt : Nat → PD} {W : Int}
theorem spExt_sum (h : 0 ≤ spOver num pt W) (n : Nat) : sumN n (spExt num pt W) = min (spOver num pt W) (spNsh pt n) := by
  induction n with
  | zero => show (0 : Int) = min (spOver num pt W) 0; omega
  | succ n ih =>
    show sumN n (spExt num pt W) + spExt num pt W n = _
    have hn := spNsh_b (pt := pt) n
    rw [ih, spNsh_s]
    unfold spExt
    by_cases hb : (pt n).2.2 = true
    · rw [if_pos hb]
      by_cases hc : spNsh pt n < spOver num pt W
      · rw [if_pos ⟨hb, hc⟩]; omega
      · rw [if_neg fun q => hc q.2]; omega
    · rw [if_neg hb, if_neg fun q => hb q.1]; omega
theorem spOver_le (ho : ∀ i, i < num → okP (pt i)) (hp : spPre num pt W) : spOver num pt W ≤ spNsh pt num := by
  have hA := spA_nn ho
  have hN := spNsh_b (pt := pt) num
  by_cases h0 : spA num pt = 0
  · have h1 := hp.2 h0
    unfold spOver
    rw [sumN_0 fun i hi => by unfold spCut; rw [if_pos h0]]
    omega
  · have h1 : sumN num (fun i => (W - spS num pt) * pshr (pt i) + (1 - spA num pt) * (if (pt i).2.2 then 1 else 0)) ≤ sumN num (fun i => spA num pt * spCut num pt W i) := by
      refine sumN_mono fun i hi => ?_
      show (W - spS num pt) * pshr (pt i) + (1 - spA num pt) * (if (pt i).2.2 then 1 else 0) ≤ spA num pt * spCut num pt W i
      unfold spCut
      rw [if_neg h0]
      by_cases hb : (pt i).2.2 = true
      · rw [if_pos hb]
        have := Int.lt_ediv_add_one_mul_self ((W - spS num pt) * pshr (pt i)) (show 0 < spA num pt by omega)
        rw [Int.add_mul, Int.mul_comm _ (spA num pt)] at this
        omega
      · have e : pshr (pt i) = 0 := by unfold pshr; exact if_neg hb
        rw [if_neg hb, e, Int.mul_zero, Int.zero_ediv, Int.mul_zero, Int.mul_zero]
        omega
    rw [sumN_add, sumN_mulc, sumN_mulc, sumN_mulc] at h1
    have e1 : sumN num (fun i => pshr (pt i)) = spA num pt := rfl
    have e2 : sumN num (fun j => if (pt j).2.2 = true then 1 else 0) = spNsh pt num := rfl
    rw [e1, e2] at h1
    refine Classical.byContradiction fun hc => ?_
    have h2 : spA num pt * (spNsh pt num + 1) ≤ spA num pt * spOver num pt W := Int.mul_le_mul_of_nonneg_left (by omega) hA.1
    have h3 : spA num pt * spOver num pt W = spA num pt * (W - spS num pt) - spA num pt * sumN num (spCut num pt W) := by unfold spOver; rw [Int.mul_sub]
    rw [Int.mul_add] at h2
    rw [Int.mul_comm (W - spS num pt), Int.sub_mul, Int.one_mul] at h1
    have h4 : sumN num (fun i => spCut num pt W i) = sumN num (spCut num pt W) := rfl
    omega
theorem sp_total (ho : ∀ i, i < num → okP (pt i)) (hp : spPre num pt W) : sumN num (spLen num pt W) = W := by
  have h1 : sumN num (spLen num pt W) = sumN num (fun i => (psz (pt i) + spCut num pt W i) + spExt num pt W i) := sumN_congr fun i _ => rfl
  have h2 : sumN num (spExt num pt W) = spOver num pt W := by rw [spExt_sum (spOver_nn ho hp), Int.min_eq_left (spOver_le ho hp)]
  have h3 : sumN num (fun i => psz (pt i)) = spS num pt := rfl
  have h4 : sumN num (fun i => spCut num pt W i) = sumN num (spCut num pt W) := rfl
  have h5 : sumN num (fun i => spExt num pt W i) = sumN num (spExt num pt W) := rfl
  rw [h1, sumN_add, sumN_add, h3, h4, h5, h2]
  unfold spOver
  omega
end TO
theorem sumN_step (c m : Int) (hm : 0 ≤ m) (n : Nat) : sumN n (fun i => c + if (i : Int) < m then 1 else 0) = n * c + min (n : Int) m := by
  induction n with
  | zero => show (0 : Int) = 0 * c + min 0 m; rw [Int.zero_mul]; omega
  | succ n ih =>
    show sumN n (fun i => c + if (i : Int) < m then 1 else 0) + (c + if (n : Int) < m then 1 else 0) = _
    have h3 : ((n + 1 : Nat) : Int) * c = n * c + c := by rw [Int.natCast_add, Int.add_mul]; simp
    rw [ih, h3]
    split <;> omega
theorem rp_total {z W : Int} (hz : 1 ≤ z ∧ z ≤ 20) (hw : 0 ≤ W ∧ W ≤ 20) (h : z ≤ W) : sumN (rpN z W) (rpLen z W) = W := by
  obtain ⟨e, h1, h2⟩ := rpN_b hz hw
  have h3 := h2.1 h
  have hm : 0 ≤ W % (rpN z W : Int) ∧ W % (rpN z W : Int) < (rpN z W : Int) := ⟨Int.emod_nonneg _ (by omega), Int.emod_lt_of_pos _ (by omega)⟩
  have h4 : sumN (rpN z W) (rpLen z W) = (rpN z W : Int) * (W / (rpN z W : Int)) + min (rpN z W : Int) (W % (rpN z W : Int)) := sumN_step _ _ hm.1 _
  have h5 := Int.mul_ediv_add_emod W (rpN z W : Int)
  rw [h4, Int.min_eq_right (by omega)]
  exact h5
theorem pc_total {d : RD} (ho : okR d) {w h : Int} (hs : isSc w h) (hh : holdsF d w h) (hk : rk d ≠ 0) : sumN (pcN d w h) (pcL d w h) = rLn d w h ∧ ∀ i, i < pcN d w h → 1 ≤ pcL d w h i := by
  obtain ⟨o1, o2, o3, o4, o5, o6, o7, o8, o9, o10⟩ := ho
  have bL : 0 ≤ rLn d w h ∧ rLn d w h ≤ 20 := by unfold rLn isSc at *; split <;> omega
  by_cases hlt : rk d < 3
  · have e : pcL d w h = spLen (rm d) (rp d) (rLn d w h) := by funext j; unfold pcL; exact if_pos hlt
    have en : pcN d w h = rm d := by unfold pcN; rw [if_neg hk, if_pos hlt]
    have hf : spFits (rm d) (rp d) (rLn d w h) := by
      rcases hh.2 with c | c | c
      · exact absurd c hk
      · exact c.2.2
      · exact absurd c.1 (by omega)
    rw [e, en]
    exact ⟨sp_total o10 hf.1, hf.2⟩
  · have e : pcL d w h = rpLen (rp d 0).2.1 (rLn d w h) := by funext j; unfold pcL; exact if_neg hlt
    have en : pcN d w h = rpN (rp d 0).2.1 (rLn d w h) := by unfold pcN; rw [if_neg hk, if_neg hlt]
    have hz : (rp d 0).2.1 ≤ rLn d w h := by
      rcases hh.2 with c | c | c
      · exact absurd c hk
      · exact absurd c.2.1 hlt
      · exact c.2
    have op := o10 0 (by omega)
    rw [e, en]
    exact ⟨rp_total ⟨op.2.1, op.2.2.1⟩ bL hz, fun i _ => (rpLen_b ⟨op.2.1, op.2.2.1⟩ bL hz i).1⟩
