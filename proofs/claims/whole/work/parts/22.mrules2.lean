/-! the reference's calls on rules, 2 -/
section MRU
variable {sh : List (Nat × Nat)} {ν : Nat → Nat → Option Nat} {μ : Nat → Nat → Int} {f s : Nat} {Q : xQ} {n : Nat} {R : GR}
theorem flag01 (b : Bool) : (if b then (1 : Int) else 0) = 0 ∨ (if b then (1 : Int) else 0) = 1 := by cases b <;> simp
theorem c_X10_part (hW : WF sh ν f s) {x1 x2 x3 : Int} {cn : Nat} {cp : Nat → PD} (h3 : x3 = 0 ∨ x3 = 1) (hc : okC cn cp) (H : IMc μ cn cp)
    (k0 : ¬ acPart cn x1 x2 x3 → Q (some (vI (refPart x1 x2 x3))) sh ν μ)
    (k1 : acPart cn x1 x2 x3 → ∀ μ' : Nat → Nat → Int, IMc μ' (cn + 1) (snoc cp cn (x1, x2, !(decide (x3 = 0)))) → (∀ b, ¬ (265 ≤ b ∧ b ≤ 277) → μ' b = μ b) → (∀ b, 266 ≤ b → b ≤ 274 → μ' b = μ b) → (∀ j, j ≠ 10 → μ' 265 j = μ 265 j) → Q (some (vI ((cn + 1 : Nat) : Int))) sh ν μ') : X mX10_part 0 [(0, vR 265), (1, vI x1), (2, vI x2), (3, vI x3)] [] sh ν μ 0 0 Q := by
  have e : μ 265 10 = cn := H.1
  have c6 := hc.1
  unfold acPart at k0 k1
  have kr : ∀ r : Int, refPart x1 x2 x3 = r → ¬ ((0 ≤ x1 ∧ x1 ≤ 7) ∧ (1 ≤ x2 ∧ x2 ≤ (if x3 = 0 then 20 else 9)) ∧ cn < 6) → Q (some (vI r)) sh ν μ := fun r hr hn => hr ▸ k0 hn
  have mid : (0 ≤ x1 ∧ x1 ≤ 7) → ∀ y2 : Int, y2 = (if x3 = 0 then 20 else 9) → X mX10_part 25 [(0, vR 265), (1, vI x1), (2, vI x2), (3, vI x3)] [vL y2, vL 1, vL x2] sh ν μ 0 0 Q := by
    intro h1 y2 e2
    refine g_X10_part_25 hW ⟨fun h2 => ⟨fun h4 => ?_, fun h4 => kr _ ?_ (by omega)⟩, fun h2 => kr _ ?_ (by rw [← e2]; omega)⟩
    · rw [e, Int.toNat_natCast, wi1 (by omega)]
      refine ⟨by omega, by omega, by omega, h3, k1 ⟨h1, by rw [← e2]; exact h2, by omega⟩ _ ⟨?_, fun i hi => ?_⟩ (fun b hb => ?_) (fun b b1 b2 => ?_) fun j hj => ?_⟩
      · simp (disch := omega) only [up_s]
      · by_cases hin : i = cn
        · subst hin
          rw [snoc_n]
          simp (disch := omega) only [up_s, up_a', up_k']
          refine ⟨trivial, trivial, ?_⟩
          rcases h3 with rfl | rfl <;> simp
        · rw [snoc_l (by omega)]
          simp (disch := omega) only [up_s, up_a', up_k']
          exact H.2 i (by omega)
      · simp (disch := omega) only [up_o']
      · simp (disch := omega) only [up_o']
      · simp (disch := omega) only [up_s, up_a', up_k']
    · unfold refPart; rw [if_pos h1, ← e2, if_pos h2]
    · unfold refPart; rw [if_pos h1, ← e2, if_neg h2]
  refine g_X10_part_0 hW ⟨fun h1 => ⟨fun h2 => mid h1 _ (by rw [if_pos h2]), fun h2 => mid h1 _ (by rw [if_neg h2])⟩, fun h1 => kr _ (by unfold refPart; rw [if_neg h1]) (by omega)⟩
theorem c_X10_split (hW : WF sh ν f s) {x1 x2 x3 : Int} {cn : Nat} {cp : Nat → PD} (hG : okG n R) (hc : okC cn cp) (H : IMg μ n R) (Hc : IMc μ cn cp)
    (k0 : ¬ acSplit n cn x1 x3 → Q (some (vI (refSplit cn x1 x3))) sh ν μ)
    (k1 : acSplit n cn x1 x3 → ∀ μ' : Nat → Nat → Int, IMg μ' (n + 1) (snoc R n (dSplit x1 x2 x3 cn cp)) → IMc μ' 0 cp → frM μ μ' → Q (some (vI (n : Nat))) sh ν μ') : X mX10_split 0 [(0, vR 265), (1, vI x1), (2, vI x2), (3, vI x3)] [] sh ν μ 0 0 Q := by
  have e := H.1
  have hn := hG.1
  have ec : μ 265 10 = cn := Hc.1
  have c6 := hc.1
  unfold acSplit at k0 k1
  have kr : ∀ r : Int, refSplit cn x1 x3 = r → ¬ ((0 ≤ x1 ∧ x1 ≤ 7) ∧ (0 ≤ x3 ∧ x3 ≤ 99) ∧ cn ≠ 0 ∧ n < 40) → Q (some (vI r)) sh ν μ := fun r hr hn => hr ▸ k0 hn
  have go : (0 ≤ x1 ∧ x1 ≤ 7) → (0 ≤ x3 ∧ x3 ≤ 99) → cn ≠ 0 → n < 40 → ∀ y2 : Int, y2 = (if x2 = 0 then 1 else 2) → X mX10_split 57 [(0, vR 265), (3, vI x3)] [vI y2, vI x1, vR 265] sh ν μ 0 0 Q := by
    intro h1 h3 hcn hn2 y2 e2
    refine g_X10_split_57 hW (c_X10_add hW hn2 e fun m0 g => g_X10_split_63 hW ?_)
    have g0 := g
    obtain ⟨⟨a1, a2, a3, a4⟩, a5, ⟨c1, c2, c3, c4, c5⟩, a6, a7, a8⟩ := g
    refine loop_up cn (fun i (m : Nat → Nat → Int) => (∀ b, b ≠ 270 → b ≠ 271 → b ≠ 272 → b ≠ 273 → m b = m0 b) ∧ m 270 n = (i : Nat) ∧ (∀ r, r ≠ n → m 270 r = m0 270 r) ∧ (∀ j, (j < 6 * n ∨ 6 * n + 6 ≤ j) → m 271 j = m0 271 j ∧ m 272 j = m0 272 j ∧ m 273 j = m0 273 j) ∧ ∀ j, j < i → m 271 (6 * n + j) = (cp j).1 ∧ m 272 (6 * n + j) = (cp j).2.1 ∧ m 273 (6 * n + j) = (if (cp j).2.2 then 1 else 0)) (fun i m => X mX10_split 68 [(0, vR 265), (4, vI (n : Nat)), (5, vI (i : Nat))] [] sh ν m 0 0 Q) ?_ ?_ 0 m0 (Nat.zero_le _) ⟨fun _ _ _ _ _ => rfl, c5, fun _ _ => rfl, fun _ _ => ⟨rfl, rfl, rfl⟩, fun j hj => absurd hj (Nat.not_lt_zero j)⟩
    · rintro m ⟨q1, q2, q3, q4, q5⟩
      have ec2 : m 265 10 = cn := by rw [q1 265 (by omega) (by omega) (by omega) (by omega), a4 10 (by omega) (by omega) (by omega)]; exact ec
      refine g_X10_split_68 hW ⟨fun _ => ?_, fun h => absurd h (by omega)⟩
      have mo : ∀ b, b ≠ 265 → b ≠ 270 → b ≠ 271 → b ≠ 272 → b ≠ 273 → up m 265 10 0 b = m0 b := fun b b0 b1 b2 b3 b4 => by rw [up_o' b0]; exact q1 b b1 b2 b3 b4
      refine k1 ⟨h1, h3, hcn, hn2⟩ _ (IMg_snoc ?_ (fun r hr => ?_) ⟨⟨?_, ?_, ?_, ?_, ?_⟩, ⟨?_, ?_, ?_, ?_⟩, fun i hi => ?_⟩ H) ⟨?_, fun i hi => absurd hi (Nat.not_lt_zero i)⟩ ⟨fun b hb => ?_, fun j j0 j1 j2 j3 => ?_, ?_, ?_⟩
      · simp (disch := omega) only [up_k']; rw [q1 265 (by omega) (by omega) (by omega) (by omega)]; exact a1
      · have hd2 := addedM_old g0 hr (H.2 r hr)
        unfold atM at hd2 ⊢
        rw [mo 266 (by omega) (by omega) (by omega) (by omega) (by omega), mo 267 (by omega) (by omega) (by omega) (by omega) (by omega), mo 268 (by omega) (by omega) (by omega) (by omega) (by omega), mo 269 (by omega) (by omega) (by omega) (by omega) (by omega), mo 274 (by omega) (by omega) (by omega) (by omega) (by omega), up_o' (by omega), up_o' (by omega), up_o' (by omega), up_o' (by omega), q3 r (by omega)]
        refine ⟨hd2.1, hd2.2.1, fun i hi => ?_⟩
        have h6 := okR_6 (hG.2 r hr)
        obtain ⟨z1, z2, z3⟩ := q4 (6 * r + i) (by omega)
        rw [z1, z2, z3]; exact hd2.2.2 i hi
      · rw [mo 266 (by omega) (by omega) (by omega) (by omega) (by omega)]; exact c1
      · rw [mo 267 (by omega) (by omega) (by omega) (by omega) (by omega)]; exact c2.trans e2
      · rw [mo 268 (by omega) (by omega) (by omega) (by omega) (by omega)]; exact c3
      · rw [mo 269 (by omega) (by omega) (by omega) (by omega) (by omega)]; exact c4
      · rw [up_o' (by omega)]; exact q2
      · rw [mo 274 (by omega) (by omega) (by omega) (by omega) (by omega)]; exact a7.1
      · rw [mo 274 (by omega) (by omega) (by omega) (by omega) (by omega)]; exact a7.2.1
      · rw [mo 274 (by omega) (by omega) (by omega) (by omega) (by omega)]; exact a7.2.2.1
      · rw [mo 274 (by omega) (by omega) (by omega) (by omega) (by omega)]; exact a7.2.2.2
      · rw [up_o' (by omega), up_o' (by omega), up_o' (by omega)]; exact q5 i hi
      · simp (disch := omega) only [up_s]; rfl
      · rw [mo b (by omega) (by omega) (by omega) (by omega) (by omega)]; exact a5 b (by omega) (by omega) (by omega) (by omega) (by omega) (by omega) (by omega)
      · simp (disch := omega) only [up_k']; rw [q1 265 (by omega) (by omega) (by omega) (by omega)]; exact a4 j j0 j2 j3
      · simp (disch := omega) only [up_k']; rw [q1 265 (by omega) (by omega) (by omega) (by omega)]; exact a2
      · simp (disch := omega) only [up_k']; rw [q1 265 (by omega) (by omega) (by omega) (by omega)]; exact a3
    · rintro i m hi ⟨q1, q2, q3, q4, q5⟩ ih
      have ec2 : m 265 10 = cn := by rw [q1 265 (by omega) (by omega) (by omega) (by omega), a4 10 (by omega) (by omega) (by omega)]; exact ec
      refine g_X10_split_68 hW ⟨fun h => absurd h (by omega), fun _ => ⟨by omega, by omega, by omega, ?_⟩⟩
      have hr : ∀ b, 275 ≤ b → b ≤ 277 → m b = μ b := fun b b1 b2 => (q1 b (by omega) (by omega) (by omega) (by omega)).trans (a5 b (by omega) (by omega) (by omega) (by omega) (by omega) (by omega) (by omega))
      rw [Int.toNat_natCast, hr 275 (by omega) (by omega), hr 276 (by omega) (by omega), hr 277 (by omega) (by omega), (Hc.2 i hi).1, (Hc.2 i hi).2.1, (Hc.2 i hi).2.2]
      refine c_X10_addPart hW hn2 (by omega) q2 (flag01 _) ?_
      refine g_X10_split_104 hW ?_
      rw [wi1 (by omega)]
      refine ih _ ⟨fun b b1 b2 b3 b4 => ?_, ?_, fun r hr => ?_, fun j hj => ⟨?_, ?_, ?_⟩, fun j hj => ?_⟩
      · simp (disch := omega) only [up_o']; exact q1 b b1 b2 b3 b4
      · simp (disch := omega) only [up_s]
      · simp (disch := omega) only [up_a', up_k']; exact q3 r hr
      · simp (disch := omega) only [up_a', up_k']; exact (q4 j hj).1
      · simp (disch := omega) only [up_a', up_k']; exact (q4 j hj).2.1
      · simp (disch := omega) only [up_a', up_k']; exact (q4 j hj).2.2
      · by_cases hji : j = i
        · subst hji; simp (disch := omega) only [up_s, up_a', up_k']; exact ⟨trivial, trivial, trivial⟩
        · simp (disch := omega) only [up_a', up_k']; exact q5 j (by omega)
  refine g_X10_split_0 hW ⟨fun h1 => ⟨fun h3 => ⟨fun hcn => ⟨fun h4 => ⟨fun h2 => go h1 h3 (by omega) (by omega) 1 (by rw [if_pos h2]), fun h2 => go h1 h3 (by omega) (by omega) 2 (by rw [if_neg h2])⟩, fun h4 => kr _ ?_ (by omega)⟩, fun hcn => kr _ ?_ (by omega)⟩, fun h3 => kr _ ?_ (by omega)⟩, fun h1 => kr _ ?_ (by omega)⟩
  · unfold refSplit; (repeat' split) <;> first | rfl | omega
  · unfold refSplit; (repeat' split) <;> first | rfl | omega
  · unfold refSplit; (repeat' split) <;> first | rfl | omega
  · unfold refSplit; (repeat' split) <;> first | rfl | omega
theorem c_X10_repeat (hW : WF sh ν f s) {x1 x2 x3 x4 x5 : Int} (hG : okG n R) (H : IMg μ n R)
    (k0 : ¬ acRepeat n x1 x2 x3 x5 → Q (some (vI (refRepeat x1 x2 x3 x5))) sh ν μ)
    (k1 : acRepeat n x1 x2 x3 x5 → ∀ μ' : Nat → Nat → Int, IMg μ' (n + 1) (snoc R n (dRepeat x1 x2 x3 x4 x5)) → frM μ μ' → (μ' 265 10 = μ 265 10 ∧ ∀ b, 275 ≤ b → μ' b = μ b) → Q (some (vI (n : Nat))) sh ν μ') : X mX10_repeat 0 [(0, vR 265), (1, vI x1), (2, vI x2), (3, vI x3), (4, vI x4), (5, vI x5)] [] sh ν μ 0 0 Q := by
  have e := H.1
  have hn := hG.1
  unfold acRepeat at k0 k1
  have kr : ∀ r : Int, refRepeat x1 x2 x3 x5 = r → ¬ ((0 ≤ x1 ∧ x1 ≤ 7) ∧ (0 ≤ x2 ∧ x2 ≤ 7) ∧ (1 ≤ x3 ∧ x3 ≤ 20) ∧ (0 ≤ x5 ∧ x5 ≤ 99) ∧ n < 40) → Q (some (vI r)) sh ν μ := fun r hr hn => hr ▸ k0 hn
  have go : (0 ≤ x1 ∧ x1 ≤ 7) → (0 ≤ x2 ∧ x2 ≤ 7) → (1 ≤ x3 ∧ x3 ≤ 20) → (0 ≤ x5 ∧ x5 ≤ 99) → n < 40 → ∀ y2 : Int, y2 = (if x4 = 0 then 3 else 4) → X mX10_repeat 68 [(0, vR 265), (2, vI x2), (3, vI x3), (5, vI x5)] [vI y2, vI x1, vR 265] sh ν μ 0 0 Q := by
    intro h1 h2 h3 h5 hn2 y2 e2
    refine g_X10_repeat_68 hW (c_X10_add hW hn2 e fun m0 g => g_X10_repeat_75 hW ?_)
    have g0 := g
    obtain ⟨⟨a1, a2, a3, a4⟩, a5, ⟨c1, c2, c3, c4, c5⟩, a6, a7, a8⟩ := g
    refine c_X10_addPart hW hn2 (i := 0) (by omega) c5 (Or.inl rfl) ?_
    have mo : ∀ b, b ≠ 270 → b ≠ 271 → b ≠ 272 → b ≠ 273 → up (up (up (up m0 271 (6 * n + 0) x2) 272 (6 * n + 0) x3) 273 (6 * n + 0) 0) 270 n ((0 + 1 : Nat) : Int) b = m0 b := fun b b1 b2 b3 b4 => by simp (disch := omega) only [up_o']
    refine g_X10_repeat_86 hW (k1 ⟨h1, h2, h3, h5, hn2⟩ _ (IMg_snoc ?_ (fun r hr => ?_) ⟨⟨?_, ?_, ?_, ?_, ?_⟩, ⟨?_, ?_, ?_, ?_⟩, fun i hi => ?_⟩ H) ⟨fun b hb => ?_, fun j j0 j1 j2 j3 => ?_, ?_, ?_⟩ ⟨?_, fun b hb => ?_⟩)
    · rw [mo 265 (by omega) (by omega) (by omega) (by omega)]; exact a1
    · have hd2 := addedM_old g0 hr (H.2 r hr)
      have h6 := okR_6 (hG.2 r hr)
      unfold atM at hd2 ⊢
      rw [mo 266 (by omega) (by omega) (by omega) (by omega), mo 267 (by omega) (by omega) (by omega) (by omega), mo 268 (by omega) (by omega) (by omega) (by omega), mo 269 (by omega) (by omega) (by omega) (by omega), mo 274 (by omega) (by omega) (by omega) (by omega)]
      refine ⟨?_, hd2.2.1, fun i hi => ?_⟩
      · simp (disch := omega) only [up_a', up_k']; exact hd2.1
      · simp (disch := omega) only [up_a', up_k']; exact hd2.2.2 i hi
    · rw [mo 266 (by omega) (by omega) (by omega) (by omega)]; exact c1
    · rw [mo 267 (by omega) (by omega) (by omega) (by omega)]; exact c2.trans e2
    · rw [mo 268 (by omega) (by omega) (by omega) (by omega)]; exact c3
    · rw [mo 269 (by omega) (by omega) (by omega) (by omega)]; exact c4
    · simp (disch := omega) only [up_s]; rfl
    · rw [mo 274 (by omega) (by omega) (by omega) (by omega)]; exact a7.1
    · rw [mo 274 (by omega) (by omega) (by omega) (by omega)]; exact a7.2.1
    · rw [mo 274 (by omega) (by omega) (by omega) (by omega)]; exact a7.2.2.1
    · rw [mo 274 (by omega) (by omega) (by omega) (by omega)]; exact a7.2.2.2
    · have hi0 : i = 0 := by
        have : i < 1 := hi
        omega
      subst hi0
      simp (disch := omega) only [up_s, up_a', up_k']
      exact ⟨rfl, rfl, rfl⟩
    · rw [mo b (by omega) (by omega) (by omega) (by omega)]; exact a5 b (by omega) (by omega) (by omega) (by omega) (by omega) (by omega) (by omega)
    · rw [mo 265 (by omega) (by omega) (by omega) (by omega)]; exact a4 j j0 j2 j3
    · rw [mo 265 (by omega) (by omega) (by omega) (by omega)]; exact a2
    · rw [mo 265 (by omega) (by omega) (by omega) (by omega)]; exact a3
    · rw [mo 265 (by omega) (by omega) (by omega) (by omega)]; exact a4 10 (by omega) (by omega) (by omega)
    · rw [mo b (by omega) (by omega) (by omega) (by omega)]; exact a5 b (by omega) (by omega) (by omega) (by omega) (by omega) (by omega) (by omega)
  refine g_X10_repeat_0 hW ⟨fun h1 => kr _ ?_ (by omega), fun h1 => ⟨fun h2 => ⟨fun h3 => kr _ ?_ (by omega), fun h3 => ⟨fun h5 => ⟨fun h4 => ⟨fun h => go h1 h2 h3 h5 (by omega) 3 (by rw [if_pos h]), fun h => go h1 h2 h3 h5 (by omega) 4 (by rw [if_neg h])⟩, fun h4 => kr _ ?_ (by omega)⟩, fun h5 => kr _ ?_ (by omega)⟩⟩, fun h2 => kr _ ?_ (by omega)⟩⟩
  · unfold refRepeat; (repeat' split) <;> first | rfl | omega
  · unfold refRepeat; (repeat' split) <;> first | rfl | omega
  · unfold refRepeat; (repeat' split) <;> first | rfl | omega
  · unfold refRepeat; (repeat' split) <;> first | rfl | omega
  · unfold refRepeat; (repeat' split) <;> first | rfl | omega
theorem c_X10_only (hW : WF sh ν f s) {x1 x2 x3 x4 : Int} (hG : okG n R) (H : IMg μ n R)
    (k0 : ¬ acOnly n x1 x3 x4 → Q (some (vI (refOnly n x1))) sh ν μ)
    (k1 : acOnly n x1 x3 x4 → ∀ μ' : Nat → Nat → Int, IMg μ' n (upd1 R x1.toNat (dOnly (R x1.toNat) x2 x3 x4)) → frM μ μ' → (μ' 265 10 = μ 265 10 ∧ ∀ b, 275 ≤ b → μ' b = μ b) → Q (some (vI 1)) sh ν μ') : X mX10_only 0 [(0, vR 265), (1, vI x1), (2, vI x2), (3, vI x3), (4, vI x4)] [] sh ν μ 0 0 Q := by
  have e := H.1
  have hn := hG.1
  unfold acOnly at k0 k1
  have kr : ∀ r : Int, refOnly n x1 = r → ¬ ((0 ≤ x1 ∧ x1 < n) ∧ 1 ≤ x3 ∧ x3 ≤ x4 ∧ x4 ≤ 20) → Q (some (vI r)) sh ν μ := fun r hr hn => hr ▸ k0 hn
  have go : (0 ≤ x1 ∧ x1 < n) → 1 ≤ x3 → x3 ≤ x4 → x4 ≤ 20 → ∀ (o : Nat), o = (if x2 = 0 then 0 else 2) → X mX10_only 46 [(0, vR 265), (3, vI x3), (4, vI x4)] [vI (o : Nat), vI (w32 (4 * x1))] sh ν μ 0 0 Q := by
    intro h1 h3 h34 h4 o eo
    have ho : o ≤ 2 := by rw [eo]; split <;> omega
    have e1 : w32 (w32 (4 * x1) + (o : Int)) = ((4 * x1.toNat + o : Nat) : Int) := by rw [w32_id (x := 4 * x1) (by omega) (by omega), w32_id (by omega) (by omega)]; omega
    refine g_X10_only_46 hW ?_
    rw [e1, wi1 (by omega), Int.toNat_natCast, Int.toNat_natCast]
    refine ⟨by omega, by omega, k1 ⟨h1, h3, h34, h4⟩ _ ⟨?_, fun r hr => ?_⟩ ⟨fun b hb => ?_, fun j j0 j1 j2 j3 => ?_, ?_, ?_⟩ ⟨?_, fun b hb => ?_⟩⟩
    · simp (disch := omega) only [up_a', up_k']; exact e
    · have hd := H.2 r hr
      unfold atM at hd ⊢
      unfold upd1
      by_cases hrx : r = x1.toNat
      · rw [if_pos hrx]
        subst hrx
        unfold dOnly
        by_cases hx : x2 = 0
        · rw [if_pos hx] at eo ⊢
          subst eo
          simp (disch := omega) only [up_s, up_a', up_k', Nat.add_zero]
          exact ⟨hd.1, ⟨trivial, trivial, hd.2.1.2.2.1, hd.2.1.2.2.2⟩, hd.2.2⟩
        · rw [if_neg hx] at eo ⊢
          subst eo
          simp (disch := omega) only [up_s, up_a', up_k', Nat.add_zero]
          exact ⟨hd.1, ⟨hd.2.1.1, hd.2.1.2.1, trivial, trivial⟩, hd.2.2⟩
      · rw [if_neg hrx]
        simp (disch := omega) only [up_a', up_k']
        exact hd
    · simp (disch := omega) only [up_o']
    · simp (disch := omega) only [up_a', up_k']
    · simp (disch := omega) only [up_s, up_k']
    · simp (disch := omega) only [up_s]
    · simp (disch := omega) only [up_a', up_k']
    · simp (disch := omega) only [up_o']
  refine g_X10_only_0 hW ⟨by omega, fun h1 => ⟨fun h3 => kr _ ?_ (by omega), fun h3 => ⟨fun h4 => kr _ ?_ (by omega), fun h4 => ⟨fun h5 => ⟨fun h => go (by omega) h3.1 h5 h4.2 0 (by rw [if_pos h]), fun h => go (by omega) h3.1 h5 h4.2 2 (by rw [if_neg h])⟩, fun h5 => kr _ ?_ (by omega)⟩⟩⟩, fun h1 => kr _ ?_ (by omega)⟩
  · unfold refOnly; rw [if_pos (by omega)]
  · unfold refOnly; rw [if_pos (by omega)]
  · unfold refOnly; rw [if_pos (by omega)]
  · unfold refOnly; rw [if_neg (by omega)]
theorem c_X10_rule (hW : WF sh ν f s) {x1 x2 : Int} (hn : n ≤ 40) (H : IMg μ n R) (k : Q (some (vI (ruleF n R x1 x2))) sh ν μ) : X mX10_rule 0 [(0, vR 265), (1, vI x1), (2, vI x2)] [] sh ν μ 0 0 Q := by
  have e := H.1
  unfold ruleF at k
  refine g_X10_rule_0 hW ⟨by omega, fun h1 => ?_, fun h1 => by rw [if_neg (by omega)] at k; exact k⟩
  rw [if_pos (by omega)] at k
  obtain ⟨⟨q1, q2, q3, q4, q5⟩, -⟩ := H.2 x1.toNat (by omega)
  refine ⟨fun h => ⟨by omega, ?_⟩, fun h => ⟨by omega, ?_⟩, fun h => ⟨by omega, ?_⟩, fun h => ⟨by omega, ?_⟩, fun h => ⟨by omega, ?_⟩, fun h => ?_⟩
  · rw [q1]; rw [if_pos h] at k; exact k
  · rw [q2]; rw [if_neg (by omega), if_pos h] at k; exact k
  · rw [q3]; rw [if_neg (by omega), if_neg (by omega), if_pos h] at k; exact k
  · rw [q5]; rw [if_neg (by omega), if_neg (by omega), if_neg (by omega), if_pos h] at k; exact k
  · rw [q4]; rw [if_neg (by omega), if_neg (by omega), if_neg (by omega), if_neg (by omega), if_pos h] at k; exact k
  · rw [if_neg (by omega), if_neg (by omega), if_neg (by omega), if_neg (by omega), if_neg (by omega)] at k; exact k
theorem c_X10_clear (hW : WF sh ν f s) (H : IMg μ n R)
    (k : ∀ μ' : Nat → Nat → Int, IMg μ' 0 R → IMc μ' 0 (fun _ => (0, 1, false)) → (∀ b, b ≠ 265 → μ' b = μ b) → (∀ j, j ≠ 0 → j ≠ 10 → j ≠ 18 → j ≠ 19 → j ≠ 20 → j ≠ 49 → j ≠ 50 → μ' 265 j = μ 265 j) → μ' 265 18 = 0 → μ' 265 19 = 0 → μ' 265 20 = 0 → μ' 265 49 = 0 → μ' 265 50 = 0 → Q (some (vI (n : Nat))) sh ν μ') : X mX10_clear 0 [(0, vR 265)] [] sh ν μ 0 0 Q := by
  refine g_X10_clear_0 hW ?_
  rw [H.1]
  refine k _ ⟨?_, fun r hr => absurd hr (Nat.not_lt_zero r)⟩ ⟨?_, fun i hi => absurd hi (Nat.not_lt_zero i)⟩ (fun b hb => ?_) (fun j j0 j1 j2 j3 j4 j5 j6 => ?_) ?_ ?_ ?_ ?_ ?_
  all_goals first | (simp (disch := omega) only [up_s, up_a', up_k', up_o']; done) | (simp (disch := omega) only [up_s, up_a', up_k', up_o']; rfl)
end MRU
