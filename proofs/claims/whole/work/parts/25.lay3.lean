/-! the class lays a repetition; any rule -/
theorem rpN_b {z W : Int} (hz : 1 ≤ z ∧ z ≤ 20) (hw : 0 ≤ W ∧ W ≤ 20) : ((rpN z W : Nat) : Int) = W / z ∧ rpN z W ≤ 20 ∧ (z ≤ W ↔ 1 ≤ rpN z W) := by
  have h0 : 0 ≤ W / z := Int.ediv_nonneg hw.1 (by omega)
  have h1 : W / z ≤ W := Int.ediv_le_self z hw.1
  have e : ((rpN z W : Nat) : Int) = W / z := by unfold rpN; omega
  refine ⟨e, by omega, ?_⟩
  constructor
  · intro h
    have : 1 ≤ W / z := Int.le_ediv_of_mul_le (by omega) (by omega)
    omega
  · intro h
    have h2 : W / z * z ≤ W := Int.ediv_mul_le W (by omega)
    have h3 : 1 * z ≤ W / z * z := Int.mul_le_mul_of_nonneg_right (by omega) (by omega)
    omega
theorem rpLen_b {z W : Int} (hz : 1 ≤ z ∧ z ≤ 20) (hw : 0 ≤ W ∧ W ≤ 20) (h : z ≤ W) (i : Nat) : 1 ≤ rpLen z W i ∧ rpLen z W i ≤ 21 := by
  obtain ⟨e, h1, h2⟩ := rpN_b hz hw
  have h3 := h2.1 h
  have h4 : W / z ≤ W := Int.ediv_le_self z hw.1
  have h5 : 1 ≤ W / (rpN z W : Int) := Int.le_ediv_of_mul_le (by omega) (by omega)
  have h6 : W / (rpN z W : Int) ≤ W := Int.ediv_le_self _ hw.1
  unfold rpLen
  split <;> omega
/-- the pieces stand in the class's layout -/
def laidX (μ : Nat → Nat → Int) (d : RD) (w h : Int) : Prop := μ 207 3 = pcN d w h ∧ ∀ i, i < pcN d w h → μ 208 i = pcNm d i ∧ μ 209 i = pcB d w h i ∧ μ 210 i = pcL d w h i
section LY3
variable {sh : List (Nat × Nat)} {ν : Nat → Nat → Option Nat} {μ : Nat → Nat → Int} {f s : Nat} {Q : xQ}
theorem c_X5_layRepeat (hW : WF sh ν f s) {a : Nat} (hA : isParts a) {n z : Int} {W : Int} (hz : 1 ≤ z ∧ z ≤ 20) (e1 : μ (a + 1) 0 = n) (e2 : μ (a + 2) 0 = z) (hw : 0 ≤ W ∧ W ≤ 20)
    (k1 : z ≤ W → ∀ μ' : Nat → Nat → Int, μ' 207 3 = rpN z W → (∀ i, i < rpN z W → μ' 208 i = n ∧ μ' 209 i = sumN i (rpLen z W) ∧ μ' 210 i = rpLen z W i) → frL μ μ' → Q (some (vI 1)) sh ν μ')
    (k0 : ¬ z ≤ W → ∀ μ' : Nat → Nat → Int, frL μ μ' → Q (some (vI 0)) sh ν μ') : X mX5_layRepeat 0 [(0, vR 207), (1, vR a), (2, vI W)] [] sh ν μ 0 0 Q := by
  obtain ⟨et, h20, hiff⟩ := rpN_b hz hw
  have ha : a + 3 < 207 := by rcases hA with rfl | ⟨r, hr, rfl⟩ <;> omega
  have ez : μ (a + 2) (Int.toNat 0) = z := e2
  refine g_X5_layRepeat_0 hW hA ⟨fun h => absurd h (by omega), fun _ => ⟨by omega, ?_⟩⟩
  rw [ez, Int.tdiv_eq_ediv_of_nonneg hw.1, ← et, w32_id (by omega) (by omega)]
  refine g_X5_layRepeat_18 hW hA ⟨fun h => k0 (fun q => by have := hiff.1 q; omega) μ frL_refl, fun h => ⟨fun h2 => ?_, fun h2 => absurd h2 (by omega)⟩⟩
  have hle : z ≤ W := hiff.2 (by omega)
  have key := loop_up (rpN z W) (fun (i : Nat) (m : Nat → Nat → Int) => m 207 3 = rpN z W ∧ (∀ j, j < i → m 208 j = n ∧ m 210 j = rpLen z W j) ∧ frL μ m) (fun i m => X mX5_layRepeat 44 [(0, vR 207), (1, vR a), (2, vI W), (4, vI (rpN z W : Nat)), (5, vI (i : Nat))] [] sh ν m 0 0 Q) ?_ ?_ 0 (up μ 207 3 (rpN z W : Nat)) (Nat.zero_le _) ⟨up_s .., fun j hj => absurd hj (Nat.not_lt_zero j), fun b b0 _ _ _ => up_o' b0⟩
  · exact key
  · rintro m ⟨g1, g2, g3⟩
    refine g_X5_layRepeat_44 hW hA ⟨fun _ => ?_, fun h => absurd h (by omega)⟩
    refine c_X5_laid hW (N := rpN z W) (len := rpLen z W) h20 g1 (fun i hi => ⟨(g2 i hi).2, by have := rpLen_b hz hw hle i; omega⟩) (fun g μ' q1 q2 => ?_) (fun g μ' q2 => absurd (fun i _ => (rpLen_b hz hw hle i).1) g)
    refine g_X5_layRepeat_102 hW ⟨by omega, k1 hle μ' (by rw [q2 207 (by omega)]; exact g1) (fun i hi => ⟨by rw [q2 208 (by omega)]; exact (g2 i hi).1, q1 i hi, by rw [q2 210 (by omega)]; exact (g2 i hi).2⟩) fun b b0 b1 b2 b3 => by rw [q2 b b2]; exact g3 b b0 b1 b2 b3⟩
  · rintro i m hi ⟨g1, g2, g3⟩ ih
    have f1 : m (a + 1) (Int.toNat 0) = n := by rw [g3 (a + 1) (by omega) (by omega) (by omega) (by omega)]; exact e1
    have hm : 0 ≤ W % (rpN z W : Int) ∧ W % (rpN z W : Int) < (rpN z W : Int) := ⟨Int.emod_nonneg _ (by omega), Int.emod_lt_of_pos _ (by omega)⟩
    have hd : 0 ≤ W / (rpN z W : Int) ∧ W / (rpN z W : Int) ≤ W := ⟨Int.ediv_nonneg hw.1 (by omega), Int.ediv_le_self _ hw.1⟩
    have step : ∀ y : Int, y = (if (i : Int) < W % (rpN z W : Int) then 1 else 0) → X mX5_layRepeat 90 [(0, vR 207), (1, vR a), (2, vI W), (4, vI (rpN z W : Nat)), (5, vI (i : Nat))] [vI y, vI (W / (rpN z W : Int)), vI (i : Nat), vR 210] sh ν (up m 208 i n) 0 0 Q := by
      intro y ey
      have el : W / (rpN z W : Int) + y = rpLen z W i := by unfold rpLen; rw [ey]
      have bl := rpLen_b hz hw hle i
      refine g_X5_layRepeat_90 hW hA (fa_X5_2 hW) ⟨by omega, ?_⟩
      rw [wi1 (by omega), el, w32_id (by omega) (by omega), Int.toNat_natCast]
      refine ih _ ⟨by simp (disch := omega) only [up_a']; exact g1, fun j hj => ?_, fun b b0 b1 b2 b3 => by simp (disch := omega) only [up_o']; exact g3 b b0 b1 b2 b3⟩
      by_cases hji : j = i
      · subst hji; simp (disch := omega) only [up_s, up_a']; exact ⟨trivial, trivial⟩
      · simp (disch := omega) only [up_a', up_k']; exact g2 j (by omega)
    refine g_X5_layRepeat_44 hW hA ⟨fun h => absurd h (by omega), fun _ => ⟨by omega, by omega, by omega, ?_⟩⟩
    rw [Int.tdiv_eq_ediv_of_nonneg hw.1, Int.tmod_eq_emod_of_nonneg hw.1, w32_id (x := W / (rpN z W : Int)) (by omega) (by omega), w32_id (x := W % (rpN z W : Int)) (by omega) (by omega), Int.toNat_natCast, f1]
    exact ⟨fun q => step 0 (by rw [if_neg (by omega)]), fun q => step 1 (by rw [if_pos (by omega)])⟩
theorem atR_kind {a : Nat} {d : RD} (h : atR μ a d) : μ a 2 = rk d := h.1.2.1
theorem c_X5_lay (hW : WF sh ν f s) {a : Nat} (hA : isRule a) {d : RD} (hP : atR μ a d) (ho : okR d) {w h : Int} (hw : 1 ≤ w ∧ w ≤ 20) (hh : 1 ≤ h ∧ h ≤ 20)
    (k1 : holdsF d w h → ∀ μ' : Nat → Nat → Int, laidX μ' d w h → frL μ μ' → Q (some (vI 1)) sh ν μ')
    (k0 : ¬ holdsF d w h → ∀ μ' : Nat → Nat → Int, frL μ μ' → Q (some (vI 0)) sh ν μ') : X mX5_lay 0 [(0, vR 207), (1, vR a), (2, vI w), (3, vI h)] [] sh ν μ 0 0 Q := by
  obtain ⟨o1, o2, o3, o4, o5, o6, o7, o8, o9, o10⟩ := ho
  obtain ⟨⟨-, e2, -, -⟩, ⟨e5, e6, e7, e8⟩, hpt⟩ := hP
  have ha : isParts (a + 1) ∧ a + 4 < 207 := by obtain ⟨r, hr, rfl⟩ := hA; exact ⟨Or.inr ⟨r, hr, rfl⟩, by omega⟩
  have ea : ∀ v : Int, up μ 207 3 v a = μ a := fun v => up_o' (by omega)
  have fL : frL μ (up μ 207 3 0) := fun b b0 _ _ _ => up_o' b0
  have back : ∀ μ' : Nat → Nat → Int, frL (up μ 207 3 0) μ' → frL μ μ' := fun μ' q b b0 b1 b2 b3 => (q b b0 b1 b2 b3).trans (fL b b0 b1 b2 b3)
  have bL : 0 ≤ rLn d w h ∧ rLn d w h ≤ 20 := by unfold rLn; split <;> omega
  have go : rAdm d w h → rk d ≠ 0 → X mX5_lay 37 [(0, vR 207), (1, vR a)] [vI (rLn d w h)] sh ν (up μ 207 3 0) 0 0 Q := by
    intro had hk
    have hpt' : atP (up μ 207 3 0) (a + 1) (rm d) (rp d) := atP_congr (fun b _ _ => up_o' (by omega)) (fun _ _ => rfl) hpt
    refine g_X5_lay_37 hW hA ?_
    rw [ea, e2]
    refine ⟨fun q => ?_, fun q => ?_⟩
    · have hlt : rk d < 3 := by omega
      refine c_X5_laySplit hW ha.1 hpt' o10 bL (fun g μ' g1 g2 g3 => ?_) (fun g μ' g3 => ?_)
      · have hh : holdsF d w h := ⟨had, Or.inr (Or.inl ⟨hk, hlt, g⟩)⟩
        refine g_X5_lay_69 hW ⟨fun _ => ⟨by omega, k1 hh μ' ⟨?_, fun i hi => ?_⟩ (back _ g3)⟩, fun q => absurd q (by omega)⟩
        · unfold pcN; rw [if_neg hk, if_pos hlt]; exact g1
        · unfold pcN at hi; rw [if_neg hk, if_pos hlt] at hi
          have e : pcL d w h = spLen (rm d) (rp d) (rLn d w h) := by funext j; unfold pcL; exact if_pos hlt
          unfold pcB pcNm; rw [if_pos hlt, e]; exact g2 i hi
      · have hn : ¬ holdsF d w h := fun q => by rcases q.2 with c | c | c <;> first | omega | exact g c.2.2
        refine g_X5_lay_69 hW ⟨fun q => absurd rfl q, fun _ => ⟨by omega, k0 hn _ fun b b0 b1 b2 b3 => ?_⟩⟩
        rw [up_o' b0]; exact back _ g3 b b0 b1 b2 b3
    · have h3 : 3 ≤ rk d := by omega
      obtain ⟨r1, r2⟩ := o9 h3
      have op := o10 0 (by omega)
      have er := hpt'.2.2.2.2 0 (by omega)
      have ez : psz (rp d 0) = (rp d 0).2.1 := by unfold psz; rw [r2]; rfl
      refine c_X5_layRepeat hW ha.1 (n := (rp d 0).1) (z := (rp d 0).2.1) ⟨op.2.1, op.2.2.1⟩ er.1 (er.2.1.trans ez) bL (fun g μ' g1 g2 g3 => ?_) (fun g μ' g3 => ?_)
      · have hh : holdsF d w h := ⟨had, Or.inr (Or.inr ⟨h3, g⟩)⟩
        refine g_X5_lay_56 hW ?_
        refine g_X5_lay_69 hW ⟨fun _ => ⟨by omega, k1 hh μ' ⟨?_, fun i hi => ?_⟩ (back _ g3)⟩, fun q => absurd q (by omega)⟩
        · unfold pcN; rw [if_neg hk, if_neg (by omega)]; exact g1
        · unfold pcN at hi; rw [if_neg hk, if_neg (by omega)] at hi
          have e : pcL d w h = rpLen (rp d 0).2.1 (rLn d w h) := by funext j; unfold pcL; exact if_neg (by omega)
          unfold pcB pcNm; rw [if_neg (by omega), e]; exact g2 i hi
      · have hn : ¬ holdsF d w h := fun q => by rcases q.2 with c | c | c <;> first | omega | exact g c.2
        refine g_X5_lay_56 hW ?_
        refine g_X5_lay_69 hW ⟨fun q => absurd rfl q, fun _ => ⟨by omega, k0 hn _ fun b b0 b1 b2 b3 => ?_⟩⟩
        rw [up_o' b0]; exact back _ g3 b b0 b1 b2 b3
  refine g_X5_lay_0 hW hA ?_
  rw [ea, e2, e5, e6, e7, e8]
  refine ⟨fun had => ⟨fun hk => ⟨fun q => ?_, fun q => ?_⟩, fun hk => k1 ⟨had, Or.inl hk⟩ _ ⟨?_, fun i hi => ?_⟩ fL⟩, fun had => k0 (fun q => had q.1) _ fL⟩
  · have := go had hk
    unfold rLn at this; rw [if_neg q] at this; exact this
  · have := go had hk
    unfold rLn at this; rw [if_pos q] at this; exact this
  · unfold pcN; rw [if_pos hk]; exact up_s ..
  · unfold pcN at hi; rw [if_pos hk] at hi; exact absurd hi (Nat.not_lt_zero i)
end LY3
