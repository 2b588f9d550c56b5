/-! the reference lays a repetition; any rule -/
/-- the pieces stand in the reference's layout -/
def laidM (μ : Nat → Nat → Int) (d : RD) (w h : Int) : Prop := μ 265 14 = pcN d w h ∧ ∀ i, i < pcN d w h → μ 280 i = pcNm d i ∧ μ 278 i = pcB d w h i ∧ μ 279 i = pcL d w h i
theorem ix6' {r : Nat} (hr : r < 40) : w32 (6 * (r : Int)) = ((6 * r : Nat) : Int) := by rw [w32_id (by omega) (by omega)]; omega
theorem ix4 {r : Nat} (hr : r < 40) : w32 (4 * (r : Int)) = ((4 * r : Nat) : Int) := by rw [w32_id (by omega) (by omega)]; omega
theorem ix4' {r : Nat} (hr : r < 40) {i : Nat} (hi : i < 4) : w32 (((4 * r : Nat) : Int) + (i : Int)) = ((4 * r + i : Nat) : Int) := by rw [w32_id (by omega) (by omega)]; omega
section LY5
variable {sh : List (Nat × Nat)} {ν : Nat → Nat → Option Nat} {μ : Nat → Nat → Int} {f s : Nat} {Q : xQ}
theorem c_X10_layRepeat (hW : WF sh ν f s) {r : Nat} (hr : r < 40) {n z : Int} {W : Int} (hz : 1 ≤ z ∧ z ≤ 20) (e1 : μ 271 (6 * r) = n) (e2 : μ 272 (6 * r) = z) (hw : 0 ≤ W ∧ W ≤ 20)
    (k1 : z ≤ W → ∀ μ' : Nat → Nat → Int, μ' 265 14 = rpN z W → (∀ i, i < rpN z W → μ' 280 i = n ∧ μ' 278 i = sumN i (rpLen z W) ∧ μ' 279 i = rpLen z W i) → frK μ μ' → Q (some (vI 1)) sh ν μ')
    (k0 : ¬ z ≤ W → ∀ μ' : Nat → Nat → Int, frK μ μ' → Q (some (vI 0)) sh ν μ') : X mX10_layRepeat 0 [(0, vR 265), (1, vI (r : Nat)), (2, vI W)] [] sh ν μ 0 0 Q := by
  obtain ⟨et, h20, hiff⟩ := rpN_b hz hw
  have fK : ∀ v : Int, frK μ (up μ 265 14 v) := fun v => ⟨fun b b0 _ _ _ => up_o' b0, fun j hj => up_k' hj _⟩
  refine g_X10_layRepeat_0 hW ?_
  rw [ix6' hr, Int.toNat_natCast, e2, Int.tdiv_eq_ediv_of_nonneg hw.1, ← et, w32_id (x := ((rpN z W : Nat) : Int)) (by omega) (by omega)]
  have done0 : rpN z W = 0 → X mX10_layRepeat 36 [(0, vR 265), (1, vI (r : Nat)), (3, vI z)] [vI 0] sh ν (up μ 265 14 (rpN z W : Nat)) 0 0 Q := by
    intro h0
    refine g_X10_layRepeat_36 hW ?_
    have e14 : up μ 265 14 (rpN z W : Nat) 265 14 = 0 := by rw [up_s, h0]; rfl
    refine g_X10_layRepeat_44 hW ?_
    rw [e14]
    exact ⟨fun _ => ⟨fun _ => k0 (fun q => by have := hiff.1 q; omega) _ (fK _), fun q => absurd q (by omega)⟩, fun q => absurd q (by omega)⟩
  have done1 : 1 ≤ rpN z W → X mX10_layRepeat 36 [(0, vR 265), (1, vI (r : Nat)), (3, vI z)] [vI (W - (rpN z W : Nat) * z)] sh ν (up μ 265 14 (rpN z W : Nat)) 0 0 Q := by
    intro h1
    have hle : z ≤ W := hiff.2 h1
    have hT : ((rpN z W : Nat) : Int) ≠ 0 := by omega
    have ediv : W / (rpN z W : Int) = (W - (rpN z W : Nat) * z) / (rpN z W : Int) + z := by
      have := Int.add_mul_ediv_left (W - (rpN z W : Nat) * z) z hT
      rw [Int.sub_add_cancel] at this; exact this
    have emod : W % (rpN z W : Int) = (W - (rpN z W : Nat) * z) % (rpN z W : Int) := by
      have := Int.add_mul_emod_self_left (W - (rpN z W : Nat) * z) (rpN z W : Int) z
      rw [Int.sub_add_cancel] at this; exact this
    have ho : 0 ≤ W - (rpN z W : Nat) * z := by
      have : W / z * z ≤ W := Int.ediv_mul_le W (by omega)
      rw [et]; omega
    have ho2 : W - (rpN z W : Nat) * z ≤ W := by
      have : 0 ≤ ((rpN z W : Nat) : Int) * z := Int.mul_nonneg (by omega) (by omega)
      omega
    generalize hov : W - (rpN z W : Nat) * z = o at ediv emod ho ho2
    have hd : 0 ≤ o / (rpN z W : Int) ∧ o / (rpN z W : Int) ≤ o := ⟨Int.ediv_nonneg ho (by omega), Int.ediv_le_self _ ho⟩
    have hm : 0 ≤ o % (rpN z W : Int) ∧ o % (rpN z W : Int) < (rpN z W : Int) := ⟨Int.emod_nonneg _ hT, Int.emod_lt_of_pos _ (by omega)⟩
    refine g_X10_layRepeat_36 hW ?_
    have key := loop_up (rpN z W) (fun (i : Nat) (m : Nat → Nat → Int) => m 265 14 = rpN z W ∧ (∀ j, j < i → m 280 j = n ∧ m 278 j = sumN j (rpLen z W) ∧ m 279 j = rpLen z W j) ∧ frK μ m) (fun i m => X mX10_layRepeat 44 [(0, vR 265), (1, vI (r : Nat)), (3, vI z), (4, vI o), (5, vI (sumN i (rpLen z W))), (6, vI (i : Nat))] [] sh ν m 0 0 Q) ?_ ?_ 0 (up μ 265 14 (rpN z W : Nat)) (Nat.zero_le _) ⟨up_s .., fun j hj => absurd hj (Nat.not_lt_zero j), fK _⟩
    · exact key
    · rintro m ⟨g1, g2, g3⟩
      refine g_X10_layRepeat_44 hW ?_
      rw [g1]
      exact ⟨fun _ => ⟨fun q => absurd q (by omega), fun _ => k1 hle m g1 g2 g3⟩, fun q => absurd q (by omega)⟩
    · rintro i m hi ⟨g1, g2, g3⟩ ih
      have bl := rpLen_b hz hw hle i
      have bsum := sumN_le (n := i) (f := rpLen z W) (m := 21) fun j _ => by have := rpLen_b hz hw hle j; omega
      have f1 : m 271 (6 * r) = n := by rw [g3.1 271 (by omega) (by omega) (by omega) (by omega)]; exact e1
      have h94 : ∀ y : Int, y = (if (i : Int) < o % (rpN z W : Int) then 1 else 0) → X mX10_layRepeat 94 [(0, vR 265), (1, vI (r : Nat)), (3, vI z), (4, vI o), (5, vI (sumN i (rpLen z W))), (6, vI (i : Nat))] [vI y, vI (z + o / (rpN z W : Int)), vI (i : Nat), vR 279] sh ν (up m 278 i (sumN i (rpLen z W))) 0 0 Q := by
        intro y ey
        have el : w32 (z + o / (rpN z W : Int) + y) = rpLen z W i := by
          have : z + o / (rpN z W : Int) + y = rpLen z W i := by unfold rpLen; rw [ediv, emod, ey]; omega
          rw [this, w32_id (by omega) (by omega)]
        have es : w32 (sumN i (rpLen z W) + rpLen z W i) = sumN (i + 1) (rpLen z W) := by rw [w32_id (by omega) (by omega)]; rfl
        refine g_X10_layRepeat_94 hW (fa_X10_16 hW) ?_
        rw [ix6' hr, Int.toNat_natCast, Int.toNat_natCast, el, up_s, es, wi1 (by omega)]
        simp (disch := omega) only [up_a']
        rw [f1]
        refine ⟨by omega, by omega, by omega, by omega, ih _ ⟨by simp (disch := omega) only [up_a']; exact g1, fun j hj => ?_, ⟨fun b b0 b1 b2 b3 => by simp (disch := omega) only [up_o']; exact g3.1 b b0 b1 b2 b3, fun j hj => by simp (disch := omega) only [up_a']; exact g3.2 j hj⟩⟩⟩
        by_cases hji : j = i
        · subst hji; simp (disch := omega) only [up_s, up_a']; exact ⟨trivial, trivial, trivial⟩
        · simp (disch := omega) only [up_a', up_k']; exact g2 j (by omega)
      refine g_X10_layRepeat_44 hW ?_
      rw [g1, Int.tdiv_eq_ediv_of_nonneg ho, Int.tmod_eq_emod_of_nonneg ho, w32_id (x := o / (rpN z W : Int)) (by omega) (by omega), w32_id (x := o % (rpN z W : Int)) (by omega) (by omega), w32_id (x := z + o / (rpN z W : Int)) (by omega) (by omega), Int.toNat_natCast]
      exact ⟨fun q => absurd q (by omega), fun _ => ⟨by omega, hT, hT, fun q => h94 0 (by rw [if_neg (by omega)]), fun q => h94 1 (by rw [if_pos (by omega)])⟩⟩
  refine ⟨by omega, by omega, fun q => done0 (by omega), fun q => ?_⟩
  have hb1 : ((rpN z W : Nat) : Int) * z ≤ W := by
    have : W / z * z ≤ W := Int.ediv_mul_le W (by omega)
    rw [et]; exact this
  have hb2 : 0 ≤ ((rpN z W : Nat) : Int) * z := Int.mul_nonneg (by omega) (by omega)
  rw [w32_id (x := ((rpN z W : Nat) : Int) * z) (by omega) (by omega), w32_id (x := W - (rpN z W : Nat) * z) (by omega) (by omega)]
  exact done1 (by omega)
theorem c_X10_lay (hW : WF sh ν f s) {r : Nat} (hr : r < 40) {d : RD} (hP : atM μ r d) (ho : okR d) {w h : Int} (hw : 1 ≤ w ∧ w ≤ 20) (hh : 1 ≤ h ∧ h ≤ 20)
    (k1 : holdsF d w h → ∀ μ' : Nat → Nat → Int, laidM μ' d w h → frK μ μ' → Q (some (vI 1)) sh ν μ')
    (k0 : ¬ holdsF d w h → ∀ μ' : Nat → Nat → Int, frK μ μ' → Q (some (vI 0)) sh ν μ') : X mX10_lay 0 [(0, vR 265), (1, vI (r : Nat)), (2, vI w), (3, vI h)] [] sh ν μ 0 0 Q := by
  obtain ⟨o1, o2, o3, o4, o5, o6, o7, o8, o9, o10⟩ := ho
  obtain ⟨⟨-, e2, -, -, en⟩, ⟨e5, e6, e7, e8⟩, hpt⟩ := hP
  have ea : ∀ (b : Nat), b ≠ 265 → up μ 265 14 0 b = μ b := fun b hb => up_o' hb
  have fK : frK μ (up μ 265 14 0) := ⟨fun b b0 _ _ _ => up_o' b0, fun j hj => up_k' hj _⟩
  have back : ∀ μ' : Nat → Nat → Int, frK (up μ 265 14 0) μ' → frK μ μ' := fun μ' q => ⟨fun b b0 b1 b2 b3 => (q.1 b b0 b1 b2 b3).trans (fK.1 b b0 b1 b2 b3), fun j hj => (q.2 j hj).trans (fK.2 j hj)⟩
  have bL : 0 ≤ rLn d w h ∧ rLn d w h ≤ 20 := by unfold rLn; split <;> omega
  have go : rAdm d w h → X mX10_lay 79 [(0, vR 265), (1, vI (r : Nat))] [vI (rLn d w h)] sh ν (up μ 265 14 0) 0 0 Q := by
    intro had
    refine g_X10_lay_79 hW ?_
    rw [Int.toNat_natCast, ea 267 (by omega), e2]
    refine ⟨by omega, fun hk => ?_, fun hk => ⟨by omega, fun q => ?_, fun q => ?_⟩⟩
    · refine k1 ⟨had, Or.inl hk⟩ _ ⟨?_, fun i hi => ?_⟩ fK
      · unfold pcN; rw [if_pos hk]; exact up_s ..
      · unfold pcN at hi; rw [if_pos hk] at hi; exact absurd hi (Nat.not_lt_zero i)
    · obtain ⟨r1, r2⟩ := o9 q
      have op := o10 0 (by omega)
      have er := hpt 0 (by omega)
      refine c_X10_layRepeat hW hr (n := (rp d 0).1) (z := (rp d 0).2.1) ⟨op.2.1, op.2.2.1⟩ (by rw [ea 271 (by omega)]; exact er.1) (by rw [ea 272 (by omega)]; exact er.2.1) bL (fun g μ' g1 g2 g3 => ?_) (fun g μ' g3 => ?_)
      · have hh : holdsF d w h := ⟨had, Or.inr (Or.inr ⟨q, g⟩)⟩
        refine g_X10_lay_120 hW ⟨fun q => absurd q (by omega), fun _ => k1 hh μ' ⟨?_, fun i hi => ?_⟩ (back _ g3)⟩
        · unfold pcN; rw [if_neg hk, if_neg (by omega)]; exact g1
        · unfold pcN at hi; rw [if_neg hk, if_neg (by omega)] at hi
          have e : pcL d w h = rpLen (rp d 0).2.1 (rLn d w h) := by funext j; unfold pcL; exact if_neg (by omega)
          unfold pcB pcNm; rw [if_neg (by omega), e]; exact g2 i hi
      · have hn : ¬ holdsF d w h := fun q => by rcases q.2 with c | c | c <;> first | omega | exact g c.2
        exact g_X10_lay_120 hW ⟨fun _ => k0 hn _ (back _ g3), fun q => absurd rfl q⟩
    · refine c_X10_laySplit hW hr o8 (num := rm d) (pt := rp d) (by rw [ea 270 (by omega)]; exact en) (fun i hi => by rw [ea 271 (by omega), ea 272 (by omega), ea 273 (by omega)]; exact hpt i hi) o10 bL (fun g μ' g1 g2 g3 => ?_) (fun g μ' g3 => ?_)
      · have hh : holdsF d w h := ⟨had, Or.inr (Or.inl ⟨hk, q, g⟩)⟩
        refine g_X10_lay_107 hW ⟨fun q => absurd q (by omega), fun _ => k1 hh μ' ⟨?_, fun i hi => ?_⟩ (back _ g3)⟩
        · unfold pcN; rw [if_neg hk, if_pos q]; exact g1
        · unfold pcN at hi; rw [if_neg hk, if_pos q] at hi
          have e : pcL d w h = spLen (rm d) (rp d) (rLn d w h) := by funext j; unfold pcL; exact if_pos q
          unfold pcB pcNm; rw [if_pos q, e]; exact g2 i hi
      · have hn : ¬ holdsF d w h := fun q => by rcases q.2 with c | c | c <;> first | omega | exact g c.2.2
        exact g_X10_lay_107 hW ⟨fun _ => k0 hn _ (back _ g3), fun q => absurd rfl q⟩
  refine g_X10_lay_0 hW ?_
  have i1 := ix4' hr (i := 1) (by omega)
  have i2 := ix4' hr (i := 2) (by omega)
  have i3 := ix4' hr (i := 3) (by omega)
  rw [show ((1 : Nat) : Int) = 1 from rfl] at i1
  rw [show ((2 : Nat) : Int) = 2 from rfl] at i2
  rw [show ((3 : Nat) : Int) = 3 from rfl] at i3
  simp only [ix4 hr, i1, i2, i3, Int.toNat_natCast, e5, e6, e7, e8, ea 267 (by omega), e2]
  refine ⟨by omega, by omega, fun q => k0 (fun z => q z.1.1) _ fK, fun q1 => ⟨by omega, by omega, fun q2 => ⟨by omega, fun q3 => ?_, fun q3 => ?_⟩, fun q => k0 (fun z => q z.1.2) _ fK⟩⟩
  · have := go ⟨q1, q2⟩
    unfold rLn at this; rw [if_neg q3] at this; exact this
  · have := go ⟨q1, q2⟩
    unfold rLn at this; rw [if_pos q3] at this; exact this
end LY5
