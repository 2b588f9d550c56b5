/-! the reference lays a split -/
section LY4
variable {sh : List (Nat × Nat)} {ν : Nat → Nat → Option Nat} {μ : Nat → Nat → Int} {f s : Nat} {Q : xQ}
/-- what laying leaves as it was, in the reference -/
def frK (μ μ' : Nat → Nat → Int) : Prop := (∀ b, b ≠ 265 → b ≠ 278 → b ≠ 279 → b ≠ 280 → μ' b = μ b) ∧ ∀ j, j ≠ 14 → μ' 265 j = μ 265 j
theorem frK_refl : frK μ μ := ⟨fun _ _ _ _ _ => rfl, fun _ _ => rfl⟩
theorem ix6 {r i : Nat} (hr : r < 40) (hi : i < 6) : w32 (w32 (6 * (r : Int)) + (i : Int)) = ((6 * r + i : Nat) : Int) := by
  rw [w32_id (x := 6 * (r : Int)) (by omega) (by omega), w32_id (by omega) (by omega)]; omega
/-- whether the first lengths are all there -/
def fitF (len : Nat → Int) : Nat → Int
  | 0 => 1
  | i + 1 => if fitF len i ≠ 0 ∧ 1 ≤ len i then 1 else 0
theorem fitF_01 (len : Nat → Int) (i : Nat) : (fitF len i = 0 ∧ ¬ ∀ j, j < i → 1 ≤ len j) ∨ (fitF len i = 1 ∧ ∀ j, j < i → 1 ≤ len j) := by
  induction i with
  | zero => exact Or.inr ⟨rfl, fun j hj => absurd hj (Nat.not_lt_zero j)⟩
  | succ i ih =>
    rcases ih with ⟨h1, h2⟩ | ⟨h1, h2⟩
    · refine Or.inl ⟨?_, fun q => h2 fun j hj => q j (by omega)⟩
      show (if fitF len i ≠ 0 ∧ 1 ≤ len i then (1 : Int) else 0) = 0
      exact if_neg fun q => q.1 h1
    · by_cases h : 1 ≤ len i
      · refine Or.inr ⟨?_, fun j hj => ?_⟩
        · show (if fitF len i ≠ 0 ∧ 1 ≤ len i then (1 : Int) else 0) = 1
          exact if_pos ⟨by omega, h⟩
        · by_cases e : j = i
          · subst e; exact h
          · exact h2 j (by omega)
      · refine Or.inl ⟨?_, fun q => h (q i (by omega))⟩
        show (if fitF len i ≠ 0 ∧ 1 ≤ len i then (1 : Int) else 0) = 0
        exact if_neg fun q => h q.2
theorem c_X10_laySplit (hW : WF sh ν f s) {r num : Nat} (hr : r < 40) (h6 : num ≤ 6) {pt : Nat → PD} {W : Int} (e0 : μ 270 r = num)
    (er : ∀ i, i < num → μ 271 (6 * r + i) = (pt i).1 ∧ μ 272 (6 * r + i) = (pt i).2.1 ∧ μ 273 (6 * r + i) = (if (pt i).2.2 then 1 else 0)) (hs : ∀ i, i < num → okP (pt i)) (hw : 0 ≤ W ∧ W ≤ 20)
    (k1 : spFits num pt W → ∀ μ' : Nat → Nat → Int, μ' 265 14 = num → (∀ i, i < num → μ' 280 i = (pt i).1 ∧ μ' 278 i = sumN i (spLen num pt W) ∧ μ' 279 i = spLen num pt W i) → frK μ μ' → Q (some (vI 1)) sh ν μ')
    (k0 : ¬ spFits num pt W → ∀ μ' : Nat → Nat → Int, frK μ μ' → Q (some (vI 0)) sh ν μ') : X mX10_laySplit 0 [(0, vR 265), (1, vI (r : Nat)), (2, vI W)] [] sh ν μ 0 0 Q := by
  have bS := spS_nn hs
  have bA := spA_nn hs
  have go : spPre num pt W → X mX10_laySplit 110 [(0, vR 265), (1, vI (r : Nat)), (3, vI (W - spS num pt)), (4, vI (spA num pt))] [] sh ν μ 0 0 Q := by
    intro hp
    have bO := spOver_nn hs hp
    have bOu : spOver num pt W ≤ 20 := by
      have : 0 ≤ sumN num (spCut num pt W) := (sumN_le (n := num) (f := spCut num pt W) (m := W - spS num pt) fun j hj => spCut_b hs hp hj).1
      unfold spOver
      omega
    have h3 : ∀ m : Nat → Nat → Int, m 265 14 = num → (∀ j, j < num → m 279 j = psz (pt j) + spCut num pt W j) → frK μ m → X mX10_laySplit 231 [(0, vR 265), (1, vI (r : Nat)), (5, vI (spOver num pt W)), (6, vI 0), (7, vI 1), (8, vI 0)] [] sh ν m 0 0 Q := by
      intro m q1 q2 q3
      have key := loop_up num (fun (i : Nat) (m : Nat → Nat → Int) => m 265 14 = num ∧ (∀ j, j < num → m 279 j = if j < i then spLen num pt W j else psz (pt j) + spCut num pt W j) ∧ (∀ j, j < i → m 280 j = (pt j).1 ∧ m 278 j = sumN j (spLen num pt W)) ∧ frK μ m) (fun i m => X mX10_laySplit 231 [(0, vR 265), (1, vI (r : Nat)), (5, vI (max 0 (spOver num pt W - spNsh pt i))), (6, vI (sumN i (spLen num pt W))), (7, vI (fitF (spLen num pt W) i)), (8, vI (i : Nat))] [] sh ν m 0 0 Q) ?_ ?_ 0 m (Nat.zero_le _) ⟨q1, fun j hj => by rw [if_neg (by omega)]; exact q2 j hj, fun j hj => absurd hj (Nat.not_lt_zero j), q3⟩
      · have e0 : max 0 (spOver num pt W - spNsh pt 0) = spOver num pt W := by
          show max 0 (spOver num pt W - 0) = _
          omega
        rw [e0] at key
        exact key
      · rintro m ⟨g1, g2, g3, g4⟩
        refine g_X10_laySplit_231 hW ⟨fun _ => ?_, fun h => absurd h (by omega)⟩
        rcases fitF_01 (spLen num pt W) num with ⟨c1, c2⟩ | ⟨c1, c2⟩
        · rw [c1]; exact ⟨by omega, k0 (fun q => c2 q.2) m g4⟩
        · rw [c1]; exact ⟨by omega, k1 ⟨hp, c2⟩ m g1 (fun i hi => ⟨(g3 i hi).1, (g3 i hi).2, by have := g2 i hi; rw [if_pos hi] at this; exact this⟩) g4⟩
      · rintro i m hi ⟨g1, g2, g3, g4⟩ ih
        have bN := spNsh_b (pt := pt) i
        have bi := spCut_b hs hp hi
        have bz := okP_sz (hs i hi)
        have bl := spLen_b hs hp hw.2 hi
        have bsum := sumN_le (n := i) (f := spLen num pt W) (m := 41) fun j hj => spLen_b hs hp hw.2 (by omega)
        have f3 : m 273 (6 * r + i) = (if (pt i).2.2 then 1 else 0) := by rw [g4.1 273 (by omega) (by omega) (by omega) (by omega)]; exact (er i hi).2.2
        have f1 : m 271 (6 * r + i) = (pt i).1 := by rw [g4.1 271 (by omega) (by omega) (by omega) (by omega)]; exact (er i hi).1
        have g2i := g2 i hi
        rw [if_neg (by omega)] at g2i
        have h274 : ∀ m' : Nat → Nat → Int, m' 279 i = spLen num pt W i → (∀ j, j ≠ i → m' 279 j = m 279 j) → (∀ b, b ≠ 279 → m' b = m b) → X mX10_laySplit 274 [(0, vR 265), (1, vI (r : Nat)), (5, vI (max 0 (spOver num pt W - spNsh pt (i + 1)))), (6, vI (sumN i (spLen num pt W))), (7, vI (fitF (spLen num pt W) i)), (8, vI (i : Nat))] [] sh ν m' 0 0 Q := by
          intro m' t1 t2 t3
          have t0 : m' 271 (6 * r + i) = (pt i).1 := by rw [t3 271 (by omega)]; exact f1
          have h334 : ∀ y, y = fitF (spLen num pt W) (i + 1) → X mX10_laySplit 334 [(0, vR 265), (1, vI (r : Nat)), (5, vI (max 0 (spOver num pt W - spNsh pt (i + 1)))), (6, vI (sumN (i + 1) (spLen num pt W))), (8, vI (i : Nat))] [vI y] sh ν (up (up m' 278 i (sumN i (spLen num pt W))) 280 i (pt i).1) 0 0 Q := by
            rintro _ rfl
            refine g_X10_laySplit_334 hW ?_
            rw [wi1 (by omega)]
            refine ih _ ⟨by simp (disch := omega) only [up_a']; rw [t3 265 (by omega)]; exact g1, fun j hj => ?_, fun j hj => ?_, ⟨fun b b0 b1 b2 b3 => ?_, fun j hj => ?_⟩⟩
            · simp (disch := omega) only [up_a']
              by_cases hji : j = i
              · subst hji; rw [if_pos (by omega)]; exact t1
              · rw [t2 j hji, g2 j hj]
                by_cases q : j < i
                · rw [if_pos q, if_pos (by omega)]
                · rw [if_neg q, if_neg (by omega)]
            · by_cases hji : j = i
              · subst hji; simp (disch := omega) only [up_s, up_a']; exact ⟨trivial, trivial⟩
              · simp (disch := omega) only [up_a', up_k']; rw [t3 280 (by omega), t3 278 (by omega)]; exact g3 j (by omega)
            · simp (disch := omega) only [up_o']; rw [t3 b b2]; exact g4.1 b b0 b1 b2 b3
            · simp (disch := omega) only [up_a']; rw [t3 265 (by omega)]; exact g4.2 j hj
          have es : w32 (sumN i (spLen num pt W) + spLen num pt W i) = sumN (i + 1) (spLen num pt W) := by rw [w32_id (by omega) (by omega)]; rfl
          have ef : fitF (spLen num pt W) (i + 1) = if fitF (spLen num pt W) i ≠ 0 ∧ 1 ≤ spLen num pt W i then 1 else 0 := rfl
          refine g_X10_laySplit_274 hW ?_
          rw [ix6 hr (show i < 6 by omega), Int.toNat_natCast, Int.toNat_natCast, t1, t0, es]
          refine ⟨by omega, by omega, by omega, by omega, fun q => g_X10_laySplit_333 hW (h334 0 ?_), fun q => ⟨by omega, fun q2 => g_X10_laySplit_333 hW (h334 0 ?_), fun q2 => h334 1 ?_⟩⟩
          · rw [ef, if_neg fun z => z.1 q]
          · rw [ef, if_neg fun z => by have := z.2; omega]
          · rw [ef, if_pos ⟨q, by omega⟩]
        refine g_X10_laySplit_231 hW ⟨fun h => absurd h (by omega), fun _ => ?_⟩
        rw [ix6 hr (show i < 6 by omega), Int.toNat_natCast, Int.toNat_natCast, f3]
        by_cases hb : (pt i).2.2 = true
        · rw [if_pos hb]
          have e1 : spNsh pt (i + 1) = spNsh pt i + 1 := by rw [spNsh_s, if_pos hb]
          refine ⟨by omega, fun q => absurd q (by decide), fun _ => ⟨fun q => ?_, fun q => ⟨by omega, by omega, ?_⟩⟩⟩
          · have e2 : max 0 (spOver num pt W - spNsh pt i) = max 0 (spOver num pt W - spNsh pt (i + 1)) := by omega
            have e3 : spExt num pt W i = 0 := spExt_0 (i := i) (Nat.le_refl _) (by omega)
            rw [e2]
            exact h274 m (by rw [g2i]; unfold spLen; omega) (fun _ _ => rfl) fun _ _ => rfl
          · have e2 : w32 (max 0 (spOver num pt W - spNsh pt i) + -1) = max 0 (spOver num pt W - spNsh pt (i + 1)) := by rw [w32_id (by omega) (by omega)]; omega
            have e3 : spExt num pt W i = 1 := by unfold spExt; exact if_pos ⟨hb, by omega⟩
            rw [e2, g2i, w32_id (x := psz (pt i) + spCut num pt W i + 1) (by omega) (by omega)]
            exact h274 _ (by rw [up_s]; unfold spLen; omega) (fun j hj => up_k' hj _) fun b hb => up_o' hb
        · rw [if_neg hb]
          have e1 : spNsh pt (i + 1) = spNsh pt i := by rw [spNsh_s, if_neg hb]; omega
          have e3 : spExt num pt W i = 0 := by unfold spExt; exact if_neg fun q => hb q.1
          refine ⟨by omega, fun _ => ?_, fun q => absurd rfl q⟩
          rw [← e1]
          exact h274 m (by rw [g2i]; unfold spLen; omega) (fun _ _ => rfl) fun _ _ => rfl
    refine g_X10_laySplit_110 hW ?_
    have key := loop_up num (fun (i : Nat) (m : Nat → Nat → Int) => (∀ j, j < i → m 279 j = psz (pt j) + spCut num pt W j) ∧ frK μ m) (fun i m => X mX10_laySplit 116 [(0, vR 265), (1, vI (r : Nat)), (3, vI (W - spS num pt)), (4, vI (spA num pt)), (5, vI (W - spS num pt - sumN i (spCut num pt W))), (6, vI (i : Nat))] [] sh ν m 0 0 Q) ?_ ?_ 0 μ (Nat.zero_le _) ⟨fun j hj => absurd hj (Nat.not_lt_zero j), frK_refl⟩
    · rw [show W - spS num pt - sumN 0 (spCut num pt W) = W - spS num pt from Int.sub_zero _] at key
      exact key
    · rintro m ⟨g1, g2⟩
      have f0 : m 270 r = num := by rw [g2.1 270 (by omega) (by omega) (by omega) (by omega)]; exact e0
      refine g_X10_laySplit_116 hW ?_
      rw [Int.toNat_natCast, f0]
      refine ⟨by omega, fun _ => ⟨by omega, ?_⟩, fun h => absurd h (by omega)⟩
      exact h3 _ (up_s ..) (fun j hj => by simp (disch := omega) only [up_a']; exact g1 j hj) ⟨fun b b0 b1 b2 b3 => by rw [up_o' b0]; exact g2.1 b b0 b1 b2 b3, fun j hj => by rw [up_k' hj]; exact g2.2 j hj⟩
    · rintro i m hi ⟨g1, g2⟩ ih
      have f0 : m 270 r = num := by rw [g2.1 270 (by omega) (by omega) (by omega) (by omega)]; exact e0
      have f3 : m 273 (6 * r + i) = (if (pt i).2.2 then 1 else 0) := by rw [g2.1 273 (by omega) (by omega) (by omega) (by omega)]; exact (er i hi).2.2
      have f2 : m 272 (6 * r + i) = (pt i).2.1 := by rw [g2.1 272 (by omega) (by omega) (by omega) (by omega)]; exact (er i hi).2.1
      have bi := spCut_b hs hp hi
      have bz := okP_sz (hs i hi)
      have bs := okP_shr (hs i hi)
      have bsum := sumN_le (n := i) (f := spCut num pt W) (m := 20) fun j hj => by have := spCut_b hs hp (show j < num by omega); omega
      have ho := hs i hi
      have h203 : ∀ m' : Nat → Nat → Int, m' = up m 279 i (psz (pt i) + spCut num pt W i) → X mX10_laySplit 203 [(0, vR 265), (1, vI (r : Nat)), (3, vI (W - spS num pt)), (4, vI (spA num pt)), (6, vI (i : Nat))] [vI (spCut num pt W i), vI (W - spS num pt - sumN i (spCut num pt W))] sh ν m' 0 0 Q := by
        rintro _ rfl
        refine g_X10_laySplit_203 hW ?_
        have es : w32 (W - spS num pt - sumN i (spCut num pt W) - spCut num pt W i) = W - spS num pt - sumN (i + 1) (spCut num pt W) := by
          rw [w32_id (by omega) (by omega)]
          show _ = W - spS num pt - (sumN i (spCut num pt W) + spCut num pt W i)
          omega
        rw [es, wi1 (by omega)]
        refine ih _ ⟨fun j hj => ?_, ⟨fun b b0 b1 b2 b3 => by rw [up_o' b2]; exact g2.1 b b0 b1 b2 b3, fun j hj => by simp (disch := omega) only [up_a']; exact g2.2 j hj⟩⟩
        by_cases hji : j = i
        · subst hji; exact up_s ..
        · rw [up_k' hji]; exact g1 j (by omega)
      have f3' : ∀ v : Int, up m 279 i v 273 (6 * r + i) = (if (pt i).2.2 then 1 else 0) := fun v => by rw [up_a' (by omega)]; exact f3
      have h174 : X mX10_laySplit 174 [(0, vR 265), (1, vI (r : Nat)), (3, vI (W - spS num pt)), (4, vI (spA num pt)), (5, vI (W - spS num pt - sumN i (spCut num pt W))), (6, vI (i : Nat))] [vI (psz (pt i) + spCut num pt W i), vI (i : Nat), vR 279] sh ν m 0 0 Q := by
        refine g_X10_laySplit_174 hW (fa_X10_16 hW) ?_
        rw [ix6 hr (show i < 6 by omega), Int.toNat_natCast, Int.toNat_natCast, f3']
        by_cases hb : (pt i).2.2 = true
        · rw [if_pos hb]
          have ez : psz (pt i) = 0 := by unfold psz; exact if_pos hb
          refine ⟨by omega, by omega, fun q => absurd q (by decide), fun _ => ⟨by omega, ?_⟩⟩
          rw [up_s]
          have := h203 _ rfl
          rw [ez, Int.zero_add] at this ⊢
          exact this
        · rw [if_neg hb]
          have ec : spCut num pt W i = 0 := by
            unfold spCut pshr; rw [if_neg hb]
            split
            · rfl
            · rw [Int.mul_zero, Int.zero_ediv]
          refine ⟨by omega, by omega, fun _ => ?_, fun q => absurd rfl q⟩
          have := h203 _ rfl
          rw [ec] at this ⊢
          exact this
      refine g_X10_laySplit_116 hW ?_
      rw [Int.toNat_natCast, f0, ix6 hr (show i < 6 by omega), Int.toNat_natCast, f3, f2]
      refine ⟨by omega, fun h => absurd h (by omega), fun _ => ?_⟩
      by_cases hb : (pt i).2.2 = true
      · rw [if_pos hb]
        have ez : psz (pt i) = 0 := by unfold psz; exact if_pos hb
        have eq : pshr (pt i) = (pt i).2.1 := by unfold pshr; exact if_pos hb
        have hA : spA num pt ≠ 0 := by
          have : pshr (pt i) ≤ spA num pt := sumN_term (f := fun i => pshr (pt i)) (fun j hj => (okP_shr (hs j hj)).1) hi
          have := ho.2.1
          omega
        have hm : 0 ≤ (W - spS num pt) * pshr (pt i) := Int.mul_nonneg hp.1 bs.1
        have hm2 : (W - spS num pt) * pshr (pt i) ≤ (W - spS num pt) * 9 := Int.mul_le_mul_of_nonneg_left bs.2 hp.1
        have e : spCut num pt W i = (W - spS num pt) * pshr (pt i) / spA num pt := by unfold spCut; exact if_neg hA
        refine ⟨by omega, by omega, fun q => absurd q (by decide), fun _ => ⟨hA, ?_⟩⟩
        rw [← eq, w32_id (x := (W - spS num pt) * pshr (pt i)) (by omega) (by omega), Int.tdiv_eq_ediv_of_nonneg hm, ← e, w32_id (by omega) (by omega)]
        rw [ez, Int.zero_add] at h174
        exact h174
      · rw [if_neg hb]
        have ez : psz (pt i) = (pt i).2.1 := by unfold psz; exact if_neg hb
        have ec : spCut num pt W i = 0 := by
          unfold spCut pshr; rw [if_neg hb]
          split
          · rfl
          · rw [Int.mul_zero, Int.zero_ediv]
        refine ⟨by omega, by omega, fun _ => ?_, fun q => absurd rfl q⟩
        rw [ec, ez, Int.add_zero] at h174
        exact h174
  refine g_X10_laySplit_0 hW ?_
  have key := loop_up num (fun (i : Nat) (m : Nat → Nat → Int) => m = μ) (fun i m => X mX10_laySplit 8 [(0, vR 265), (1, vI (r : Nat)), (3, vI (W - sumN i (fun i => psz (pt i)))), (4, vI (sumN i (fun i => pshr (pt i)))), (5, vI (i : Nat))] [] sh ν m 0 0 Q) ?_ ?_ 0 μ (Nat.zero_le _) rfl
  · rw [show W - sumN 0 (fun i => psz (pt i)) = W from Int.sub_zero _] at key
    exact key
  · rintro m hm
    rw [hm]
    refine g_X10_laySplit_8 hW ?_
    rw [Int.toNat_natCast, e0]
    refine ⟨by omega, fun _ => ⟨fun q => k0 (fun z => by have h1 := z.1.1; unfold spS at h1; omega) μ frK_refl, fun q => ⟨fun q2 => go ⟨q, fun z => absurd z q2⟩, fun q2 => ⟨fun q3 => go ⟨q, fun _ => Int.le_antisymm q3 q⟩, fun q3 => k0 (fun z => by have h1 := z.1.2 q2; unfold spS at h1; omega) μ frK_refl⟩⟩⟩, fun h => absurd h (by omega)⟩
  · rintro i m hi rfl ih
    have f3 := (er i hi).2.2
    have f2 := (er i hi).2.1
    have bz := okP_sz (hs i hi)
    have bs := okP_shr (hs i hi)
    have b1 := sumN_le (n := i) (f := fun i => psz (pt i)) (m := 20) fun j hj => okP_sz (hs j (by omega))
    have b2 := sumN_le (n := i) (f := fun i => pshr (pt i)) (m := 9) fun j hj => okP_shr (hs j (by omega))
    have ho := hs i hi
    have h86 : ∀ y z : Int, y = w32 (W - sumN i (fun i => psz (pt i)) - psz (pt i)) → z = pshr (pt i) → X mX10_laySplit 86 [(0, vR 265), (1, vI (r : Nat)), (3, vI y), (5, vI (i : Nat))] [vI z, vI (sumN i (fun i => pshr (pt i)))] sh ν m 0 0 Q := by
      rintro _ _ rfl rfl
      refine g_X10_laySplit_86 hW ?_
      have e1 : w32 (W - sumN i (fun i => psz (pt i)) - psz (pt i)) = W - sumN (i + 1) (fun i => psz (pt i)) := by
        rw [w32_id (by omega) (by omega)]
        show _ = W - (sumN i (fun i => psz (pt i)) + psz (pt i))
        omega
      have e2 : w32 (sumN i (fun i => pshr (pt i)) + pshr (pt i)) = sumN (i + 1) (fun i => pshr (pt i)) := by
        rw [w32_id (by omega) (by omega)]; rfl
      rw [e1, e2, wi1 (by omega)]
      exact ih m rfl
    refine g_X10_laySplit_8 hW ?_
    rw [Int.toNat_natCast, e0, ix6 hr (show i < 6 by omega), Int.toNat_natCast, f3, f2]
    refine ⟨by omega, fun h => absurd h (by omega), fun _ => ⟨by omega, ?_⟩⟩
    by_cases hb : (pt i).2.2 = true
    · rw [if_pos hb]
      have ez : psz (pt i) = 0 := by unfold psz; exact if_pos hb
      have eq : pshr (pt i) = (pt i).2.1 := by unfold pshr; exact if_pos hb
      refine ⟨fun q => absurd q (by decide), fun _ => ?_⟩
      refine g_X10_laySplit_51 hW ?_
      rw [ix6 hr (show i < 6 by omega), Int.toNat_natCast, f3, f2, if_pos hb]
      exact ⟨by omega, fun q => absurd q (by decide), fun _ => ⟨by omega, h86 _ _ (by rw [ez]) eq.symm⟩⟩
    · rw [if_neg hb]
      have ez : psz (pt i) = (pt i).2.1 := by unfold psz; exact if_neg hb
      have eq : pshr (pt i) = 0 := by unfold pshr; exact if_neg hb
      refine ⟨fun _ => ⟨by omega, ?_⟩, fun q => absurd rfl q⟩
      refine g_X10_laySplit_51 hW ?_
      rw [ix6 hr (show i < 6 by omega), Int.toNat_natCast, f3, if_neg hb]
      exact ⟨by omega, fun _ => h86 _ _ (by rw [ez]) eq.symm, fun q => absurd rfl q⟩
end LY4
