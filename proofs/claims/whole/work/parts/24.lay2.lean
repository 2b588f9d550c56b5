/-! the class lays a split, a repetition -/
section LY2
variable {sh : List (Nat × Nat)} {ν : Nat → Nat → Option Nat} {μ : Nat → Nat → Int} {f s : Nat} {Q : xQ}
/-- what laying leaves as it was, in the class -/
def frL (μ μ' : Nat → Nat → Int) : Prop := ∀ b, b ≠ 207 → b ≠ 208 → b ≠ 209 → b ≠ 210 → μ' b = μ b
theorem frL_refl : frL μ μ := fun _ _ _ _ _ => rfl
theorem spExt_0 {num : Nat} {pt : Nat → PD} {W : Int} {i j : Nat} (hij : i ≤ j) (h : spOver num pt W - spNsh pt i ≤ 0) : spExt num pt W j = 0 := by
  unfold spExt
  have := spNsh_mono (pt := pt) hij
  exact if_neg fun q => by have := q.2; omega
theorem pshr_pos {p : PD} (h : okP p) : 0 < pshr p ↔ p.2.2 = true := by
  unfold pshr
  obtain ⟨-, h1, -⟩ := h
  constructor
  · intro q
    split at q
    · assumption
    · omega
  · intro q
    rw [if_pos q]; omega
theorem c_X5_laySplit (hW : WF sh ν f s) {a num : Nat} (hA : isParts a) {pt : Nat → PD} {W : Int} (hP : atP μ a num pt) (hs : ∀ i, i < num → okP (pt i)) (hw : 0 ≤ W ∧ W ≤ 20)
    (k1 : spFits num pt W → ∀ μ' : Nat → Nat → Int, μ' 207 3 = num → (∀ i, i < num → μ' 208 i = (pt i).1 ∧ μ' 209 i = sumN i (spLen num pt W) ∧ μ' 210 i = spLen num pt W i) → frL μ μ' → Q (some (vI 1)) sh ν μ')
    (k0 : ¬ spFits num pt W → ∀ μ' : Nat → Nat → Int, frL μ μ' → Q (some (vI 0)) sh ν μ') : X mX5_laySplit 0 [(0, vR 207), (1, vR a), (2, vI W)] [] sh ν μ 0 0 Q := by
  have e3 := hP.1
  have h6 := hP.2.1
  have e4 : μ a 4 = spS num pt := hP.2.2.1
  have e5 : μ a 5 = spA num pt := hP.2.2.2.1
  have er := hP.2.2.2.2
  have bS := spS_nn hs
  have bA := spA_nn hs
  have ha : a + 3 < 207 := by rcases hA with rfl | ⟨r, hr, rfl⟩ <;> omega
  have go : spPre num pt W → X mX5_laySplit 24 [(0, vR 207), (1, vR a), (3, vI (W - spS num pt))] [] sh ν μ 0 0 Q := by
    intro hp
    have bO := spOver_nn hs hp
    have hfin : ∀ m : Nat → Nat → Int, m 207 3 = num → (∀ j, j < num → m 208 j = (pt j).1 ∧ m 210 j = spLen num pt W j) → frL μ m → X mX5_laySplit 165 [(0, vR 207)] [] sh ν m 0 0 Q := by
      intro m q1 q2 q3
      refine g_X5_laySplit_165 hW ?_
      refine c_X5_laid hW (N := num) (len := spLen num pt W) (by omega) q1 (fun i hi => ⟨(q2 i hi).2, spLen_b hs hp hw.2 hi⟩) (fun g μ' g1 g2 => ?_) (fun g μ' g2 => ?_)
      · refine g_X5_laySplit_169 hW ⟨by omega, k1 ⟨hp, g⟩ μ' (by rw [g2 207 (by omega)]; exact q1) (fun i hi => ⟨by rw [g2 208 (by omega)]; exact (q2 i hi).1, g1 i hi, by rw [g2 210 (by omega)]; exact (q2 i hi).2⟩) fun b b0 b1 b2 b3 => by rw [g2 b b2]; exact q3 b b0 b1 b2 b3⟩
      · exact g_X5_laySplit_169 hW ⟨by omega, k0 (fun q => g q.2) μ' fun b b0 b1 b2 b3 => by rw [g2 b b2]; exact q3 b b0 b1 b2 b3⟩
    have h2 : ∀ m : Nat → Nat → Int, m 207 3 = num → (∀ j, j < num → m 208 j = (pt j).1 ∧ m 210 j = psz (pt j) + spCut num pt W j) → frL μ m → X mX5_laySplit 121 [(0, vR 207), (1, vR a), (4, vI (spOver num pt W)), (5, vI 0)] [] sh ν m 0 0 Q := by
      intro m q1 q2 q3
      have key := loop_up num (fun (i : Nat) (m : Nat → Nat → Int) => m 207 3 = num ∧ (∀ j, j < num → m 208 j = (pt j).1 ∧ m 210 j = if j < i then spLen num pt W j else psz (pt j) + spCut num pt W j) ∧ frL μ m) (fun i m => X mX5_laySplit 121 [(0, vR 207), (1, vR a), (4, vI (max 0 (spOver num pt W - spNsh pt i))), (5, vI (i : Nat))] [] sh ν m 0 0 Q) ?_ ?_ 0 m (Nat.zero_le _) ⟨q1, fun j hj => ⟨(q2 j hj).1, by rw [if_neg (by omega)]; exact (q2 j hj).2⟩, q3⟩
      · have e0 : max 0 (spOver num pt W - spNsh pt 0) = spOver num pt W := by
          show max 0 (spOver num pt W - 0) = _
          omega
        rw [e0] at key
        exact key
      · rintro m ⟨g1, g2, g3⟩
        refine g_X5_laySplit_121 hW hA ⟨fun _ => hfin m g1 (fun j hj => ⟨(g2 j hj).1, by have := (g2 j hj).2; rw [if_pos hj] at this; exact this⟩) g3, fun h => absurd h (by omega)⟩
      · rintro i m hi ⟨g1, g2, g3⟩ ih
        have bN := spNsh_b (pt := pt) i
        have bOu : spOver num pt W ≤ 20 := by
          have : 0 ≤ sumN num (spCut num pt W) := by
            have := sumN_le (n := num) (f := spCut num pt W) (m := W - spS num pt) fun j hj => spCut_b hs hp hj
            exact this.1
          unfold spOver
          omega
        refine g_X5_laySplit_121 hW hA ⟨fun h => absurd h (by omega), fun _ => ⟨fun h => ?_, fun h => ?_⟩⟩
        · refine hfin m g1 (fun j hj => ⟨(g2 j hj).1, ?_⟩) g3
          rw [(g2 j hj).2]
          split
          · rfl
          · unfold spLen
            rw [spExt_0 (i := i) (by omega) (by omega)]
            omega
        · have es : m (a + 3) i = pshr (pt i) := by rw [g3 (a + 3) (by omega) (by omega) (by omega) (by omega)]; exact (er i hi).2.2
          have ep := pshr_pos (hs i hi)
          have bi := spCut_b hs hp hi
          have bz := okP_sz (hs i hi)
          rw [Int.toNat_natCast, es]
          have g2i := (g2 i hi).2
          rw [if_neg (by omega)] at g2i
          refine ⟨by omega, fun hn => ?_, fun hq => ⟨by omega, by omega, ?_⟩⟩
          · refine g_X5_laySplit_159 hW hA ?_
            have hfalse : ¬ ((pt i).2.2 = true) := fun q => by have := ep.2 q; omega
            have e1 : spNsh pt (i + 1) = spNsh pt i := by rw [spNsh_s, if_neg hfalse]; omega
            have e2 : spExt num pt W i = 0 := by unfold spExt; exact if_neg fun q => hfalse q.1
            rw [wi1 (by omega), ← e1]
            refine ih m ⟨g1, fun j hj => ⟨(g2 j hj).1, ?_⟩, g3⟩
            by_cases hji : j = i
            · subst hji
              rw [if_pos (by omega), g2i]; unfold spLen; omega
            · rw [(g2 j hj).2]
              by_cases q : j < i
              · rw [if_pos q, if_pos (by omega)]
              · rw [if_neg q, if_neg (by omega)]
          · refine g_X5_laySplit_159 hW hA ?_
            have htrue := ep.1 hq
            have e1 : spNsh pt (i + 1) = spNsh pt i + 1 := by rw [spNsh_s, if_pos htrue]
            have e2 : spExt num pt W i = 1 := by unfold spExt; exact if_pos ⟨htrue, by omega⟩
            have e3 : w32 (max 0 (spOver num pt W - spNsh pt i) + -1) = max 0 (spOver num pt W - spNsh pt (i + 1)) := by rw [w32_id (by omega) (by omega)]; omega
            rw [wi1 (by omega), e3, g2i, w32_id (x := psz (pt i) + spCut num pt W i + 1) (by omega) (by omega)]
            refine ih _ ⟨by simp (disch := omega) only [up_a']; exact g1, fun j hj => ⟨by simp (disch := omega) only [up_a']; exact (g2 j hj).1, ?_⟩, fun b b0 b1 b2 b3 => by rw [up_o' b3]; exact g3 b b0 b1 b2 b3⟩
            by_cases hji : j = i
            · subst hji
              rw [up_s, if_pos (by omega)]; unfold spLen; omega
            · rw [up_k' hji, (g2 j hj).2]
              by_cases q : j < i
              · rw [if_pos q, if_pos (by omega)]
              · rw [if_neg q, if_neg (by omega)]
    refine g_X5_laySplit_24 hW hA ?_
    rw [e3]
    have key := loop_up num (fun (i : Nat) (m : Nat → Nat → Int) => m 207 3 = num ∧ (∀ j, j < i → m 208 j = (pt j).1 ∧ m 210 j = psz (pt j) + spCut num pt W j) ∧ frL μ m) (fun i m => X mX5_laySplit 38 [(0, vR 207), (1, vR a), (3, vI (W - spS num pt)), (4, vI (W - spS num pt - sumN i (spCut num pt W))), (5, vI (i : Nat))] [] sh ν m 0 0 Q) ?_ ?_ 0 (up μ 207 3 (num : Int)) (Nat.zero_le _) ⟨up_s .., fun j hj => absurd hj (Nat.not_lt_zero j), fun b b0 _ _ _ => up_o' b0⟩
    · rw [show W - spS num pt - sumN 0 (spCut num pt W) = W - spS num pt from Int.sub_zero _] at key
      exact key
    · rintro m ⟨g1, g2, g3⟩
      exact g_X5_laySplit_38 hW hA ⟨fun _ => h2 m g1 g2 g3, fun h => absurd h (by omega)⟩
    · rintro i m hi ⟨g1, g2, g3⟩ ih
      have f5 : m a 5 = spA num pt := by rw [g3 a (by omega) (by omega) (by omega) (by omega)]; exact e5
      have f3 : m (a + 3) i = pshr (pt i) := by rw [g3 (a + 3) (by omega) (by omega) (by omega) (by omega)]; exact (er i hi).2.2
      have f1 : m (a + 1) i = (pt i).1 := by rw [g3 (a + 1) (by omega) (by omega) (by omega) (by omega)]; exact (er i hi).1
      have f2 : m (a + 2) i = psz (pt i) := by rw [g3 (a + 2) (by omega) (by omega) (by omega) (by omega)]; exact (er i hi).2.1
      have bi := spCut_b hs hp hi
      have bz := okP_sz (hs i hi)
      have bs := okP_shr (hs i hi)
      have bsum := sumN_le (n := i) (f := spCut num pt W) (m := 20) fun j hj => by have := spCut_b hs hp (show j < num by omega); omega
      have step : X mX5_laySplit 72 [(0, vR 207), (1, vR a), (3, vI (W - spS num pt)), (4, vI (W - spS num pt - sumN i (spCut num pt W))), (5, vI (i : Nat))] [vI (spCut num pt W i)] sh ν m 0 0 Q := by
        refine g_X5_laySplit_72 hW hA ⟨by omega, by omega, by omega, by omega, ?_⟩
        rw [Int.toNat_natCast, wi1 (by omega), up_a' (show a + 2 ≠ 208 by omega), f1, f2, w32_id (x := psz (pt i) + spCut num pt W i) (by omega) (by omega), w32_id (x := W - spS num pt - sumN i (spCut num pt W) - spCut num pt W i) (by omega) (by omega)]
        have es : W - spS num pt - sumN i (spCut num pt W) - spCut num pt W i = W - spS num pt - sumN (i + 1) (spCut num pt W) := by
          show _ = W - spS num pt - (sumN i (spCut num pt W) + spCut num pt W i)
          omega
        rw [es]
        refine ih _ ⟨by simp (disch := omega) only [up_a']; exact g1, fun j hj => ?_, fun b b0 b1 b2 b3 => by simp (disch := omega) only [up_o']; exact g3 b b0 b1 b2 b3⟩
        by_cases hji : j = i
        · subst hji; simp (disch := omega) only [up_s, up_a']; exact ⟨trivial, trivial⟩
        · simp (disch := omega) only [up_a', up_k']; exact g2 j (by omega)
      refine g_X5_laySplit_38 hW hA ⟨fun h => absurd h (by omega), fun _ => ⟨fun h => ?_, fun h => ⟨by omega, by omega, ?_⟩⟩⟩
      · have e : spCut num pt W i = 0 := by unfold spCut; exact if_pos (by omega)
        rw [e] at step; exact step
      · rw [Int.toNat_natCast, f3, f5]
        have hm : 0 ≤ (W - spS num pt) * pshr (pt i) := Int.mul_nonneg hp.1 bs.1
        have hm2 : (W - spS num pt) * pshr (pt i) ≤ (W - spS num pt) * 9 := Int.mul_le_mul_of_nonneg_left bs.2 hp.1
        have e : spCut num pt W i = (W - spS num pt) * pshr (pt i) / spA num pt := by unfold spCut; exact if_neg (by omega)
        rw [w32_id (x := (W - spS num pt) * pshr (pt i)) (by omega) (by omega), Int.tdiv_eq_ediv_of_nonneg hm, ← e, w32_id (by omega) (by omega)]
        exact step
  refine g_X5_laySplit_0 hW hA ?_
  rw [e4, e5, w32_id (x := W - spS num pt) (by omega) (by omega)]
  refine ⟨fun h => k0 (fun q => by have := q.1.1; omega) μ frL_refl, fun h => ⟨fun h2 => go ⟨h, fun q => absurd q h2⟩, fun h2 => ⟨fun h3 => go ⟨h, fun _ => h3⟩, fun h3 => k0 (fun q => h3 (q.1.2 h2)) μ frL_refl⟩⟩⟩
end LY2
