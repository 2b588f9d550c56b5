/-! contracts of small methods, the next ones -/
section C2
variable {sh : List (Nat × Nat)} {ν : Nat → Nat → Option Nat} {μ : Nat → Nat → Int} {f s : Nat} {Q : xQ}
theorem c_X9_isName (hW : WF sh ν f s) {x0 : Int} (k : Q (some (vI (bI (0 ≤ x0 ∧ x0 ≤ 7)))) sh ν μ) : X mX9_isName 0 [(0, vI x0)] [] sh ν μ 0 0 Q := g_X9_isName_0 hW k
theorem c_X9_isCost (hW : WF sh ν f s) {x0 : Int} (k : Q (some (vI (bI (0 ≤ x0 ∧ x0 ≤ 99)))) sh ν μ) : X mX9_isCost 0 [(0, vI x0)] [] sh ν μ 0 0 Q := g_X9_isCost_0 hW k
theorem c_X9_isScope (hW : WF sh ν f s) {x0 x1 : Int} (k : Q (some (vI (bI ((1 ≤ x0 ∧ x0 ≤ 20) ∧ 1 ≤ x1 ∧ x1 ≤ 20)))) sh ν μ) : X mX9_isScope 0 [(0, vI x0), (1, vI x1)] [] sh ν μ 0 0 Q := by
  refine g_X9_isScope_0 hW ⟨fun h => ?_, fun h => ⟨fun h2 => ?_, fun h2 => ?_⟩⟩
  · rw [bI_f (by omega)] at k; exact k
  · rw [bI_f (by omega)] at k; exact k
  · rw [bI_t ⟨h, h2⟩] at k; exact k
theorem c_X10_isName (hW : WF sh ν f s) {x0 : Int} (k : Q (some (vI (bI (0 ≤ x0 ∧ x0 ≤ 7)))) sh ν μ) : X mX10_isName 0 [(0, vI x0)] [] sh ν μ 0 0 Q := g_X10_isName_0 hW k
theorem c_X10_isLength (hW : WF sh ν f s) {x0 : Int} (k : Q (some (vI (bI (1 ≤ x0 ∧ x0 ≤ 20)))) sh ν μ) : X mX10_isLength 0 [(0, vI x0)] [] sh ν μ 0 0 Q := g_X10_isLength_0 hW k
theorem c_X10_isRule (hW : WF sh ν f s) {x1 : Int} (h0 : 0 ≤ μ 265 0 ∧ μ 265 0 ≤ 40) (k : Q (some (vI (bI (0 ≤ x1 ∧ x1 < μ 265 0)))) sh ν μ) : X mX10_isRule 0 [(0, vR 265), (1, vI x1)] [] sh ν μ 0 0 Q := by
  refine g_X10_isRule_0 hW ?_
  rw [w32_id (by omega) (by omega)]
  have e : bI (0 ≤ x1 ∧ x1 ≤ μ 265 0 - 1) = bI (0 ≤ x1 ∧ x1 < μ 265 0) := by
    by_cases h : 0 ≤ x1 ∧ x1 < μ 265 0
    · rw [bI_t h, bI_t (by omega)]
    · rw [bI_f h, bI_f (by omega)]
  rw [e]; exact k
theorem c_X10_isPlace (hW : WF sh ν f s) {x1 : Int} (k : Q (some (vI (bI (0 ≤ x1 ∧ x1 ≤ 80 ∧ x1 % 9 < μ 265 35 ∧ x1 / 9 < μ 265 36)))) sh ν μ) : X mX10_isPlace 0 [(0, vR 265), (1, vI x1)] [] sh ν μ 0 0 Q := by
  refine g_X10_isPlace_0 hW ⟨fun h => ?_, fun h => ?_⟩
  · rw [bI_f (by omega)] at k; exact k
  · rw [Int.tmod_eq_emod_of_nonneg h.1, Int.tdiv_eq_ediv_of_nonneg h.1, w32_id (x := x1 % 9) (by omega) (by omega), w32_id (x := x1 / 9) (by omega) (by omega)]
    refine ⟨fun h3 => ?_, fun h3 => ⟨fun h4 => ?_, fun h4 => ?_⟩⟩
    · rw [bI_f (by omega)] at k; exact k
    · rw [bI_f (by omega)] at k; exact k
    · rw [bI_t ⟨h.1, h.2, h3, h4⟩] at k; exact k
theorem c_X7_admits (hW : WF sh ν f s) {a : Nat} (hA : isRule a) {x1 x2 : Int} (k : Q (some (vI (bI ((μ a 5 ≤ x1 ∧ x1 ≤ μ a 6) ∧ μ a 7 ≤ x2 ∧ x2 ≤ μ a 8)))) sh ν μ) : X mX7_admits 0 [(0, vR a), (1, vI x1), (2, vI x2)] [] sh ν μ 0 0 Q := by
  refine g_X7_admits_0 hW hA ⟨fun h => ?_, fun h => ⟨fun h2 => ?_, fun h2 => ?_⟩⟩
  · rw [bI_f (by omega)] at k; exact k
  · rw [bI_f (by omega)] at k; exact k
  · rw [bI_t ⟨h, h2⟩] at k; exact k
theorem c_J7_fill_eb02e (hW : WF sh ν f s) {a N : Nat} (ha : sh[a]? = some (2, N)) {v : Int} {lo hi : Nat} (h1 : lo ≤ hi) (h2 : hi ≤ N) (hN : N ≤ 2147483646) (k : Q none sh ν (filA μ a lo hi (w8 v))) : X mJ7_fill_eb02e 0 [(0, vR a), (1, vI (lo : Nat)), (2, vI (hi : Nat)), (3, vI v)] [] sh ν μ 0 0 Q := by
  refine g_J7_fill_eb02e_0 hW ha ⟨by omega, by omega, ?_⟩
  refine loop_up hi (fun i m => lo ≤ i ∧ m = filA μ a lo i (w8 v)) (fun i m => X mJ7_fill_eb02e 10 [(0, vR a), (2, vI (hi : Nat)), (3, vI v), (4, vI (i : Nat))] [] sh ν m 0 0 Q) ?_ ?_ lo μ h1 ⟨Nat.le_refl _, (filA_0 _ _ _ _).symm⟩
  · rintro _ ⟨-, rfl⟩
    exact g_J7_fill_eb02e_10 hW ha ⟨fun _ => k, fun h => absurd h (by omega)⟩
  · rintro i _ hi2 ⟨hl, rfl⟩ ih
    refine g_J7_fill_eb02e_10 hW ha ⟨fun h => absurd h (by omega), fun _ => ⟨by omega, ?_⟩⟩
    rw [wi1 (by omega), Int.toNat_natCast, filA_1 _ _ _ _ _ hl]
    exact ih _ ⟨by omega, rfl⟩
end C2
