/-! the reference's calls on rules -/
/-- what a call of the reference that changes the rules leaves as it was -/
def frM (μ μ' : Nat → Nat → Int) : Prop := (∀ b, ¬ (265 ≤ b ∧ b ≤ 277) → μ' b = μ b) ∧ (∀ j, j ≠ 0 → j ≠ 10 → j ≠ 49 → j ≠ 50 → μ' 265 j = μ 265 j) ∧ μ' 265 49 = 0 ∧ μ' 265 50 = 0
theorem okR_6 {d : RD} (h : okR d) : rm d ≤ 6 := h.2.2.2.2.2.2.2.1
theorem IMg_snoc {μ μ' : Nat → Nat → Int} {n : Nat} {R : GR} {d : RD} (h1 : μ' 265 0 = (n + 1 : Nat)) (hf : ∀ r, r < n → atM μ' r (R r)) (hd : atM μ' n d) (H : IMg μ n R) : IMg μ' (n + 1) (snoc R n d) := by
  refine ⟨h1, fun r hr => ?_⟩
  by_cases h : r = n
  · subst h; rw [snoc_n]; exact hd
  · rw [snoc_l (by omega)]
    exact hf r (by omega)
section MRU
variable {sh : List (Nat × Nat)} {ν : Nat → Nat → Option Nat} {μ : Nat → Nat → Int} {f s : Nat} {Q : xQ} {n : Nat} {R : GR}
/-- behind add: the new rule's numbers, no parts -/
def addedM (μ μ' : Nat → Nat → Int) (n : Nat) (x1 x2 x3 x4 : Int) : Prop := (μ' 265 0 = (n + 1 : Nat) ∧ μ' 265 49 = 0 ∧ μ' 265 50 = 0 ∧ ∀ j, j ≠ 0 → j ≠ 49 → j ≠ 50 → μ' 265 j = μ 265 j) ∧ (∀ b, b ≠ 265 → b ≠ 266 → b ≠ 267 → b ≠ 268 → b ≠ 269 → b ≠ 270 → b ≠ 274 → μ' b = μ b) ∧ (μ' 266 n = x1 ∧ μ' 267 n = x2 ∧ μ' 268 n = x3 ∧ μ' 269 n = x4 ∧ μ' 270 n = 0) ∧ (∀ r, r ≠ n → μ' 266 r = μ 266 r ∧ μ' 267 r = μ 267 r ∧ μ' 268 r = μ 268 r ∧ μ' 269 r = μ 269 r ∧ μ' 270 r = μ 270 r) ∧ (μ' 274 (4 * n) = 1 ∧ μ' 274 (4 * n + 1) = 20 ∧ μ' 274 (4 * n + 2) = 1 ∧ μ' 274 (4 * n + 3) = 20) ∧ ∀ j, (j < 4 * n ∨ 4 * n + 4 ≤ j) → μ' 274 j = μ 274 j
theorem addedM_old {μ μ' : Nat → Nat → Int} {x1 x2 x3 x4 : Int} (h : addedM μ μ' n x1 x2 x3 x4) {r : Nat} (hr : r < n) {e : RD} (H : atM μ r e) : atM μ' r e := by
  obtain ⟨-, h2, -, h4, -, h6⟩ := h
  obtain ⟨g1, g2, g3, g4, g5⟩ := h4 r (by omega)
  unfold atM at H ⊢
  rw [g1, g2, g3, g4, g5, h6 (4 * r) (by omega), h6 (4 * r + 1) (by omega), h6 (4 * r + 2) (by omega), h6 (4 * r + 3) (by omega), h2 271 (by omega) (by omega) (by omega) (by omega) (by omega) (by omega) (by omega), h2 272 (by omega) (by omega) (by omega) (by omega) (by omega) (by omega) (by omega), h2 273 (by omega) (by omega) (by omega) (by omega) (by omega) (by omega) (by omega)]
  exact H
theorem c_X10_add (hW : WF sh ν f s) {x1 x2 x3 x4 : Int} (hn : n < 40) (e : μ 265 0 = n) (k : ∀ μ' : Nat → Nat → Int, addedM μ μ' n x1 x2 x3 x4 → Q (some (vI (n : Nat))) sh ν μ') : X mX10_add 0 [(0, vR 265), (1, vI x1), (2, vI x2), (3, vI x3), (4, vI x4)] [] sh ν μ 0 0 Q := by
  refine g_X10_add_0 hW ?_
  rw [e, Int.toNat_natCast]
  refine ⟨by omega, by omega, by omega, by omega, by omega, ?_⟩
  let m0 : Nat → Nat → Int := up (up (up (up (up μ 266 n x1) 267 n x2) 268 n x3) 269 n x4) 270 n 0
  refine loop_up 4 (fun i m => (∀ b, b ≠ 274 → m b = m0 b) ∧ (∀ j, j < i → m 274 (4 * n + j) = (if j % 2 = 0 then 1 else 20)) ∧ ∀ j, (j < 4 * n ∨ 4 * n + 4 ≤ j) → m 274 j = μ 274 j) (fun i m => X mX10_add 54 [(0, vR 265), (5, vI (i : Nat))] [] sh ν m 0 0 Q) ?_ ?_ 0 m0 (Nat.zero_le _) ⟨fun _ _ => rfl, fun j hj => absurd hj (Nat.not_lt_zero j), fun j _ => ?_⟩
  · rintro m ⟨h1, h2, h3⟩
    have e0 : m 265 0 = n := by rw [h1 265 (by omega)]; show m0 265 0 = n; simp (disch := omega) only [m0, up_a']; exact e
    refine g_X10_add_54 hW ⟨fun _ => ?_, fun h => absurd h (by omega)⟩
    rw [e0, wi1 (by omega), w32_id (x := ((n + 1 : Nat) : Int) - 1) (by omega) (by omega), show ((n + 1 : Nat) : Int) - 1 = n by omega]
    have hb : ∀ b, b ≠ 265 → up (up (up m 265 0 ((n + 1 : Nat) : Int)) 265 49 0) 265 50 0 b = m b := fun b hb => by simp (disch := omega) only [up_o']
    refine k _ ⟨⟨?_, ?_, ?_, fun j j0 j1 j2 => ?_⟩, fun b b0 b1 b2 b3 b4 b5 b6 => ?_, ⟨?_, ?_, ?_, ?_, ?_⟩, fun r hr => ⟨?_, ?_, ?_, ?_, ?_⟩, ⟨?_, ?_, ?_, ?_⟩, fun j hj => ?_⟩
    · simp (disch := omega) only [up_s, up_a', up_k']
    · simp (disch := omega) only [up_s, up_a', up_k']
    · simp (disch := omega) only [up_s, up_a', up_k']
    · simp (disch := omega) only [up_s, up_a', up_k']; rw [h1 265 (by omega)]; simp (disch := omega) only [m0, up_a']
    · rw [hb b b0, h1 b b6]; simp (disch := omega) only [m0, up_o']
    · rw [hb 266 (by omega), h1 266 (by omega)]; simp (disch := omega) only [m0, up_s, up_a', up_k']
    · rw [hb 267 (by omega), h1 267 (by omega)]; simp (disch := omega) only [m0, up_s, up_a', up_k']
    · rw [hb 268 (by omega), h1 268 (by omega)]; simp (disch := omega) only [m0, up_s, up_a', up_k']
    · rw [hb 269 (by omega), h1 269 (by omega)]; simp (disch := omega) only [m0, up_s, up_a', up_k']
    · rw [hb 270 (by omega), h1 270 (by omega)]; simp (disch := omega) only [m0, up_s, up_a', up_k']
    · rw [hb 266 (by omega), h1 266 (by omega)]; simp (disch := omega) only [m0, up_s, up_a', up_k']
    · rw [hb 267 (by omega), h1 267 (by omega)]; simp (disch := omega) only [m0, up_s, up_a', up_k']
    · rw [hb 268 (by omega), h1 268 (by omega)]; simp (disch := omega) only [m0, up_s, up_a', up_k']
    · rw [hb 269 (by omega), h1 269 (by omega)]; simp (disch := omega) only [m0, up_s, up_a', up_k']
    · rw [hb 270 (by omega), h1 270 (by omega)]; simp (disch := omega) only [m0, up_s, up_a', up_k']
    · rw [hb 274 (by omega)]; exact h2 0 (by omega)
    · rw [hb 274 (by omega)]; exact h2 1 (by omega)
    · rw [hb 274 (by omega)]; exact h2 2 (by omega)
    · rw [hb 274 (by omega)]; exact h2 3 (by omega)
    · rw [hb 274 (by omega)]; exact h3 j hj
  · rintro i m hi ⟨h1, h2, h3⟩ ih
    have e0 : m 265 0 = n := by rw [h1 265 (by omega)]; show m0 265 0 = n; simp (disch := omega) only [m0, up_a']; exact e
    have go : ∀ y : Int, y = (if i % 2 = 0 then 1 else 20) → X mX10_add 86 [(0, vR 265), (5, vI (i : Nat))] [vI y, vI (((4 * n + i : Nat)) : Int), vR 274] sh ν m 0 0 Q := by
      intro y ey
      refine g_X10_add_86 hW (fa_X10_9 hW) ⟨by omega, ?_⟩
      rw [wi1 (by omega), Int.toNat_natCast]
      refine ih _ ⟨fun b hb => by simp (disch := omega) only [up_o']; exact h1 b hb, fun j hj => ?_, fun j hj => by simp (disch := omega) only [up_k']; exact h3 j hj⟩
      by_cases hji : j = i
      · subst hji; simp (disch := omega) only [up_s]; exact ey
      · simp (disch := omega) only [up_k']; exact h2 j (by omega)
    have ew : w32 (w32 (4 * (n : Int)) + (i : Int)) = ((4 * n + i : Nat) : Int) := by rw [w32_id (x := 4 * (n : Int)) (by omega) (by omega), w32_id (by omega) (by omega)]; omega
    have et : w32 (Int.tmod (i : Int) 2) = ((i % 2 : Nat) : Int) := by rw [Int.tmod_eq_emod_of_nonneg (by omega), w32_id (by omega) (by omega)]; omega
    refine g_X10_add_54 hW ⟨fun h => absurd h (by omega), fun _ => ?_⟩
    rw [e0, ew, et]
    exact ⟨fun h => go 20 (by rw [if_neg (by omega)]), fun h => go 1 (by rw [if_pos (by omega)])⟩
  · simp (disch := omega) only [m0, up_a']
/-- a part more for rule n -/
theorem c_X10_addPart (hW : WF sh ν f s) {i : Nat} {x2 x3 x4 : Int} (hn : n < 40) (hi : i < 6) (e : μ 270 n = i) (h4 : x4 = 0 ∨ x4 = 1) (k : Q none sh ν (up (up (up (up μ 271 (6 * n + i) x2) 272 (6 * n + i) x3) 273 (6 * n + i) x4) 270 n ((i + 1 : Nat) : Int))) : X mX10_addPart 0 [(0, vR 265), (1, vI (n : Nat)), (2, vI x2), (3, vI x3), (4, vI x4)] [] sh ν μ 0 0 Q := by
  refine g_X10_addPart_0 hW ?_
  have ew : w32 (w32 (6 * (n : Int)) + (i : Int)) = ((6 * n + i : Nat) : Int) := by rw [w32_id (x := 6 * (n : Int)) (by omega) (by omega), w32_id (by omega) (by omega)]; omega
  rw [Int.toNat_natCast, e, ew, Int.toNat_natCast, wi1 (by omega)]
  exact ⟨by omega, by omega, by omega, by omega, h4, by omega, by omega, k⟩
theorem c_X10_fill (hW : WF sh ν f s) {x1 x2 x3 : Int} (hn : n ≤ 40) (H : IMg μ n R)
    (k0 : ¬ acFill n x1 x2 x3 → Q (some (vI (refFill x1 x2 x3))) sh ν μ)
    (k1 : acFill n x1 x2 x3 → ∀ μ' : Nat → Nat → Int, IMg μ' (n + 1) (snoc R n (dFill x1 x2 x3)) → frM μ μ' → (μ' 265 10 = μ 265 10 ∧ ∀ b, 275 ≤ b → μ' b = μ b) → Q (some (vI (n : Nat))) sh ν μ') : X mX10_fill 0 [(0, vR 265), (1, vI x1), (2, vI x2), (3, vI x3)] [] sh ν μ 0 0 Q := by
  have e := H.1
  unfold acFill at k0 k1
  have kr : ∀ r : Int, refFill x1 x2 x3 = r → ¬ ((0 ≤ x1 ∧ x1 ≤ 7) ∧ (0 ≤ x2 ∧ x2 ≤ 25) ∧ (0 ≤ x3 ∧ x3 ≤ 99) ∧ n < 40) → Q (some (vI r)) sh ν μ := fun r hr hn => hr ▸ k0 hn
  refine g_X10_fill_0 hW ⟨fun h1 => ⟨fun h2 => kr _ ?_ (by omega), fun h2 => ⟨fun h3 => ⟨fun h4 => ?_, fun h4 => g_X10_fill_58 hW (kr _ ?_ (by omega))⟩, fun h3 => kr _ ?_ (by omega)⟩⟩, fun h1 => kr _ ?_ (by omega)⟩
  · unfold refFill; (repeat' split) <;> first | rfl | omega
  · have hn2 : n < 40 := by omega
    refine c_X10_add hW hn2 e fun μ' g => ?_
    have g0 := g
    obtain ⟨⟨a1, a2, a3, a4⟩, a5, ⟨c1, c2, c3, c4, c5⟩, a6, a7, a8⟩ := g
    refine g_X10_fill_58 hW (k1 ⟨h1, h2, h3, hn2⟩ μ' (IMg_snoc a1 (fun r hr => addedM_old g0 hr (H.2 r hr)) ⟨⟨c1, c2, c3, c4, c5⟩, a7, fun i hi => absurd hi (Nat.not_lt_zero i)⟩ H) ⟨fun b hb => a5 b (by omega) (by omega) (by omega) (by omega) (by omega) (by omega) (by omega), fun j j0 _ j2 j3 => a4 j j0 j2 j3, a2, a3⟩ ⟨a4 10 (by omega) (by omega) (by omega), fun b hb => a5 b (by omega) (by omega) (by omega) (by omega) (by omega) (by omega) (by omega)⟩)
  · unfold refFill; (repeat' split) <;> first | rfl | omega
  · unfold refFill; (repeat' split) <;> first | rfl | omega
  · unfold refFill; (repeat' split) <;> first | rfl | omega
end MRU
