/-! what was drawn: the reference's draw, at, step, drawn, fault -/
section MF
variable {sh : List (Nat × Nat)} {ν : Nat → Nat → Option Nat} {μ : Nat → Nat → Int} {f s : Nat} {Q : xQ} {n : Nat} {R : GR} {F : FR}
theorem c_X10_draw325 (hW : WF sh ν f s) {c : Nat} (hc : c ≤ 8000)
    (k : ∀ μ' : Nat → Nat → Int, (∀ j, j < c → μ' 281 j = μ 284 j) → (∀ p, p < 400 → μ' 282 p = μ 283 p) → (∀ b, b ≠ 281 → b ≠ 282 → μ' b = μ b) → Q (some (vI (c : Nat))) sh ν μ') : X mX10_draw 325 [(0, vR 265), (4, vI (c : Nat)), (6, vI 0)] [] sh ν μ 0 0 Q := by
  have key := loop_up c (fun (i : Nat) (m : Nat → Nat → Int) => (∀ j, j < i → m 281 j = μ 284 j) ∧ ∀ b, b ≠ 281 → m b = μ b) (fun i m => X mX10_draw 325 [(0, vR 265), (4, vI (c : Nat)), (6, vI (i : Nat))] [] sh ν m 0 0 Q) ?_ ?_ 0 μ (Nat.zero_le _) ⟨fun j hj => absurd hj (Nat.not_lt_zero j), fun _ _ => rfl⟩
  · exact key
  · rintro m ⟨g1, g2⟩
    refine g_X10_draw_325 hW ⟨fun _ => ?_, fun q => absurd q (by omega)⟩
    have key2 := loop_up 400 (fun (i : Nat) (m' : Nat → Nat → Int) => (∀ p, p < i → m' 282 p = μ 283 p) ∧ ∀ b, b ≠ 282 → m' b = m b) (fun i m' => X mX10_draw 355 [(0, vR 265), (4, vI (c : Nat)), (6, vI (i : Nat))] [] sh ν m' 0 0 Q) ?_ ?_ 0 m (Nat.zero_le _) ⟨fun j hj => absurd hj (Nat.not_lt_zero j), fun _ _ => rfl⟩
    · exact key2
    · rintro m' ⟨u1, u2⟩
      exact g_X10_draw_355 hW ⟨fun _ => k m' (fun j hj => by rw [u2 281 (by omega)]; exact g1 j hj) u1 (fun b b0 b1 => by rw [u2 b b1]; exact g2 b b0), fun q => absurd q (by omega)⟩
    · rintro i m' hi ⟨u1, u2⟩ ih
      refine g_X10_draw_355 hW ⟨fun q => absurd q (by omega), fun _ => ⟨by omega, by omega, ?_⟩⟩
      rw [Int.toNat_natCast, wi1 (by omega)]
      refine ih _ ⟨fun p hp => ?_, fun b hb => by rw [up_o' hb]; exact u2 b hb⟩
      by_cases e : p = i
      · subst e; rw [up_s, u2 283 (by omega), g2 283 (by omega)]
      · rw [up_k' e]; exact u1 p (by omega)
  · rintro i m hi ⟨g1, g2⟩ ih
    refine g_X10_draw_325 hW ⟨fun q => absurd q (by omega), fun _ => ⟨by omega, by omega, ?_⟩⟩
    rw [Int.toNat_natCast, wi1 (by omega)]
    refine ih _ ⟨fun p hp => ?_, fun b hb => by rw [up_o' hb]; exact g2 b hb⟩
    by_cases e : p = i
    · subst e; rw [up_s, g2 284 (by omega)]
    · rw [up_k' e]; exact g1 p (by omega)
theorem c_X10_draw (hW : WF sh ν f s) (hG : okG n R) (HM : IMg μ n R) {x1 x2 x3 : Int}
    (k0 : ¬ isSc x2 x3 → Q (some (vI (-2))) sh ν μ)
    (k1 : isSc x2 x3 → (drawO n R x1 x2 x3).1 = 0 → ∀ μ' : Nat → Nat → Int, IMf μ' (frontO x2 x3 (drawO n R x1 x2 x3)) → μ' 265 26 = 0 → (∀ b, b ≠ 265 → ¬ (278 ≤ b ∧ b ≤ 291) → μ' b = μ b) → (∀ j, j ≠ 14 → j ≠ 18 → j ≠ 19 → j ≠ 20 → j ≠ 22 → j ≠ 26 → j ≠ 27 → μ' 265 j = μ 265 j) → Q (some (vI (drawO n R x1 x2 x3).2.2.1)) sh ν μ')
    (k2 : isSc x2 x3 → (drawO n R x1 x2 x3).1 ≠ 0 → ∀ μ' : Nat → Nat → Int, μ' 265 26 = (drawO n R x1 x2 x3).2.1 → (∀ b, b ≠ 265 → ¬ (278 ≤ b ∧ b ≤ 280) → ¬ (283 ≤ b ∧ b ≤ 291) → μ' b = μ b) → (∀ j, j ≠ 14 → j ≠ 26 → j ≠ 27 → μ' 265 j = μ 265 j) → Q (some (vI (-100 - (drawO n R x1 x2 x3).1))) sh ν μ') : X mX10_draw 0 [(0, vR 265), (1, vI x1), (2, vI x2), (3, vI x3)] [] sh ν μ 0 0 Q := by
  refine g_X10_draw_0 hW ⟨fun h => k0 fun z => h z.1, fun h1 => ⟨fun h2 => ?_, fun h => k0 fun z => h z.2⟩⟩
  have hsc : isSc x2 x3 := ⟨h1, h2⟩
  refine g_X10_put_0 hW ?_
  rw [up_s]
  refine ⟨by omega, by omega, by omega, by omega, by omega, ?_⟩
  refine g_X10_draw_31 hW ?_
  rw [show Int.toNat 0 = 0 from rfl]
  have hb : ∀ b, b ≠ 265 → ¬ (285 ≤ b ∧ b ≤ 291) → up (up (up (up (up (up (up (up (up μ 265 27 0) 285 0 0) 286 0 x1) 287 0 0) 288 0 0) 289 0 0) 290 0 x2) 291 0 x3) 265 27 1 b = μ b := fun b b0 b1 => by simp (disch := omega) only [up_o']
  have hj : ∀ j, j ≠ 27 → up (up (up (up (up (up (up (up (up μ 265 27 0) 285 0 0) 286 0 x1) 287 0 0) 288 0 0) 289 0 0) 290 0 x2) 291 0 x3) 265 27 1 265 j = μ 265 j := fun j hj => by simp (disch := omega) only [up_a', up_k']
  have hP : pileM (up (up (up (up (up (up (up (up (up μ 265 27 0) 285 0 0) 286 0 x1) 287 0 0) 288 0 0) 289 0 0) 290 0 x2) 291 0 x3) 265 27 1) 1 (topP x1 x2 x3) := by
    refine ⟨up_s .., fun k hk => ?_⟩
    have : k = 0 := by omega
    subst this
    simp (disch := omega) only [up_s, up_a', up_k']
    exact ⟨⟨rfl, rfl, rfl⟩, rfl, rfl, rfl, rfl⟩
  generalize up (up (up (up (up (up (up (up (up μ 265 27 0) 285 0 0) 286 0 x1) 287 0 0) 288 0 0) 289 0 0) 290 0 x2) 291 0 x3) 265 27 1 = m0 at hb hj hP
  have eo : drawF n R 8001 1 (topP x1 x2 x3) 0 (fun _ => 0) 0 (fun _ => none) = drawO n R x1 x2 x3 := rfl
  have ho := drawO_ok (x1 := x1) hG hsc
  refine c_X10_draw56 hW hG HM (by omega) (by omega) 8001 1 0 (topP x1 x2 x3) (fun _ => 0) 0 (fun _ => none) m0 rfl (drawO_inv hsc) hP ⟨fun j hj => absurd hj (Nat.not_lt_zero j), fun p _ v hv => by cases hv⟩ ⟨fun b b0 b1 b2 => hb b b0 (by omega), fun j j0 j1 => hj j j1⟩ (fun q m1 r1 r2 => ?_) (fun q m1 r2 => ?_)
  · rw [eo] at q r1 ⊢
    obtain ⟨o1, -⟩ := ho.2 q
    refine c_X10_draw325 hW o1 fun m2 t1 t2 t3 => ?_
    have e265 : m2 265 = up (up (up (up (up m1 265 26 0) 265 20 ((drawO n R x1 x2 x3).2.2.1 : Nat)) 265 22 (drawO n R x1 x2 x3).2.2.2.2.1) 265 18 x2) 265 19 x3 265 := t3 265 (by omega) (by omega)
    refine k1 hsc q m2 ⟨⟨?_, ?_, ?_, fun _ => ?_⟩, fun j hj => ?_, fun p hp hin => ?_⟩ ?_ (fun b b0 b1 => ?_) fun j j0 j1 j2 j3 j4 j5 j6 => ?_
    · rw [e265]; simp (disch := omega) only [up_s, up_k']; rfl
    · rw [e265]; simp (disch := omega) only [up_s, up_k']; rfl
    · rw [e265]; simp (disch := omega) only [up_s, up_k']; rfl
    · rw [e265]; simp (disch := omega) only [up_s, up_k']; rfl
    · rw [t1 j hj]; simp (disch := omega) only [up_a']; exact r1.1 j hj
    · rw [t2 p hp]; simp (disch := omega) only [up_a']; exact r1.2 p hp _ (frontO_at hG hsc q hin)
    · rw [e265]; simp (disch := omega) only [up_s, up_k']
    · rw [t3 b (by omega) (by omega)]; simp (disch := omega) only [up_o']; exact r2.1 b b0 (by omega) (by omega)
    · rw [e265]; simp (disch := omega) only [up_k']; exact r2.2 j j0 j6
  · rw [eo] at q ⊢
    exact k2 hsc q _ (up_s ..) (fun b b0 b1 b2 => by rw [up_o' b0]; exact r2.1 b b0 b1 b2) fun j j0 j1 j2 => by rw [up_k' j1]; exact r2.2 j j0 j2
theorem c_X10_at (hW : WF sh ν f s) (hF : okF F) (HF : IMf μ F) {x y : Int} (k : Q (some (vI (ansAt F x y))) sh ν μ) : X mX10_at 0 [(0, vR 265), (1, vI x), (2, vI y)] [] sh ν μ 0 0 Q := by
  unfold ansAt at k
  have hb := okF_20 hF
  refine g_X10_at_0 hW ?_
  rw [HF.1.1, HF.1.2.1, w32_id (x := fW F - 1) (by omega) (by omega), w32_id (x := fH F - 1) (by omega) (by omega)]
  refine ⟨fun q => ?_, fun q1 => ⟨fun q => ?_, fun q2 => ?_⟩⟩
  · rw [cI_f (fun z => by omega)] at k; exact k
  · rw [cI_f (fun z => by omega)] at k; exact k
  · obtain ⟨i1, i2, i3, i4⟩ := at_in hF (x := x) (y := y) (by omega) (by omega)
    have e : w32 (w32 (20 * y) + x) = x + 20 * y := by rw [w32_id (x := 20 * y) (by omega) (by omega), w32_id (by omega) (by omega)]; omega
    rw [cI_t (by omega)] at k
    rw [e, HF.2.2 _ i1 i2]
    exact ⟨⟨i3, i4⟩, k⟩
theorem c_X10_step (hW : WF sh ν f s) (hF : okF F) (HF : IMf μ F) {i : Int} (k : Q (some (vI (ansStep F i))) sh ν μ) : X mX10_step 0 [(0, vR 265), (1, vI i)] [] sh ν μ 0 0 Q := by
  unfold ansStep at k
  have h8 := hF.2.1
  refine g_X10_step_0 hW ?_
  rw [HF.1.2.2.1, w32_id (x := ((fC F : Nat) : Int) - 1) (by omega) (by omega)]
  refine ⟨fun q => ?_, fun q1 => ⟨by omega, ?_⟩⟩
  · rw [cI_f (fun z => by omega)] at k; exact k
  · rw [cI_t (by omega)] at k
    rw [HF.2.1 _ (by omega)]; exact k
theorem c_X10_drawn (hW : WF sh ν f s) (HF : IMf μ F) (k : Q (some (vI (ansDrawn F))) sh ν μ) : X mX10_drawn 0 [(0, vR 265)] [] sh ν μ 0 0 Q := by
  unfold ansDrawn at k
  refine g_X10_drawn_0 hW ?_
  rw [HF.1.1]
  refine ⟨fun q => ?_, fun q => ?_⟩
  · rw [cI_f q] at k
    rw [HF.1.2.2.2 q]; exact k
  · rw [cI_t q] at k; exact k
end MF
