/-! contracts of small methods: what they answer, by the memory -/
/-- the class's row of weights, ways ..: a place read, if it is one -/
def rdO (v d : Int) (x : Int) (n : Nat) : Int := if 0 ≤ x ∧ x < (n : Int) then v else d
theorem w64a {a b : Int} (ha : 0 ≤ a) (ha2 : a ≤ 2000000000000000000) (hb : 0 ≤ b) (hb2 : b ≤ 2000000000000000000) : w64 (a + b) = a + b := w64_id (by omega) (by omega)
/-- the reference's sum and product of ways -/
def wplus (a b : Int) : Int := if a < 0 ∨ b < 0 then -10 else min (a + b) (1000000000000000000 : Int)
def wmult (a b : Int) : Int := if a = 0 ∨ b = 0 then 0 else if a < 0 ∨ b < 0 then -10 else min (a * b) (1000000000000000000 : Int)
/-- a number of ways: ENDLESS, or from none to the most -/
def wOK (a : Int) : Prop := a = -10 ∨ (0 ≤ a ∧ a ≤ (1000000000000000000 : Int))
theorem w_cap {a b : Int} (ha : 0 ≤ a) (hb : 0 < b) : ((1000000000000000000 : Int) / b < a ↔ (1000000000000000000 : Int) < a * b) := by
  constructor
  · intro h
    have h2 : (1000000000000000000 : Int) / b + 1 ≤ a := by omega
    have h3 : ((1000000000000000000 : Int) / b + 1) * b ≤ a * b := Int.mul_le_mul_of_nonneg_right h2 (by omega)
    have h4 := Int.lt_ediv_add_one_mul_self (1000000000000000000 : Int) hb
    omega
  · intro h
    rcases Int.lt_or_le ((1000000000000000000 : Int) / b) a with q | q
    · exact q
    · exfalso
      have h3 : a * b ≤ ((1000000000000000000 : Int) / b) * b := Int.mul_le_mul_of_nonneg_right q (by omega)
      have h4 := Int.ediv_mul_le (1000000000000000000 : Int) (b := b) (by omega)
      omega
theorem w_div {b : Int} (hb : 0 < b) : w64 (Int.tdiv (1000000000000000000 : Int) b) = (1000000000000000000 : Int) / b := by
  have h1 : Int.tdiv (1000000000000000000 : Int) b = (1000000000000000000 : Int) / b := Int.tdiv_eq_ediv_of_nonneg (by decide)
  have h2 : 0 ≤ (1000000000000000000 : Int) / b := Int.ediv_nonneg (by decide) (by omega)
  have h3 : (1000000000000000000 : Int) / b ≤ (1000000000000000000 : Int) := Int.ediv_le_self _ (by decide)
  rw [h1, w64_id] <;> omega
theorem w_mul0 {a b : Int} (ha : 0 ≤ a) (hb : 0 ≤ b) : 0 ≤ a * b := Int.mul_nonneg ha hb
section C0
variable {sh : List (Nat × Nat)} {ν : Nat → Nat → Option Nat} {μ : Nat → Nat → Int} {f s : Nat} {Q : xQ}
theorem c_X9_isWithin (hW : WF sh ν f s) {x0 x1 x2 : Int} (k : Q (some (vI (bI (x1 ≤ x0 ∧ x0 ≤ x2)))) sh ν μ) : X mX9_isWithin 0 [(0, vI x0), (1, vI x1), (2, vI x2)] [] sh ν μ 0 0 Q := by
  refine g_X9_isWithin_0 hW ⟨fun h => ?_, fun h => ⟨fun h2 => ?_, fun h2 => ?_⟩⟩
  · rw [bI_f (by omega)] at k; exact k
  · rw [bI_f (by omega)] at k; exact k
  · rw [bI_t ⟨h, h2⟩] at k; exact k
theorem c_X10_in (hW : WF sh ν f s) {x0 x1 x2 : Int} (k : Q (some (vI (bI (x1 ≤ x0 ∧ x0 ≤ x2)))) sh ν μ) : X mX10_in 0 [(0, vL x0), (2, vL x1), (4, vL x2)] [] sh ν μ 0 0 Q := by
  refine g_X10_in_0 hW ⟨fun h => ?_, fun h => ⟨fun h2 => ?_, fun h2 => ?_⟩⟩
  · rw [bI_f (by omega)] at k; exact k
  · rw [bI_f (by omega)] at k; exact k
  · rw [bI_t ⟨h, h2⟩] at k; exact k
theorem c_X3_isFull (hW : WF sh ν f s) (k : Q (some (vI (bI (40 ≤ μ 1 2)))) sh ν μ) : X mX3_isFull 0 [(0, vR 1)] [] sh ν μ 0 0 Q := by
  refine g_X3_isFull_0 hW ⟨fun h => ?_, fun h => ?_⟩
  · rw [bI_f (by omega)] at k; exact k
  · rw [bI_t h] at k; exact k
theorem c_X3_has (hW : WF sh ν f s) {x1 : Int} (k : Q (some (vI (bI (0 ≤ x1 ∧ x1 < μ 1 2)))) sh ν μ) : X mX3_has 0 [(0, vR 1), (1, vI x1)] [] sh ν μ 0 0 Q := by
  refine g_X3_has_0 hW ⟨fun h => ?_, fun h => ⟨fun h2 => ?_, fun h2 => ?_⟩⟩
  · rw [bI_f (by omega)] at k; exact k
  · rw [bI_f (by omega)] at k; exact k
  · rw [bI_t ⟨h, h2⟩] at k; exact k
theorem c_X7_isAlongY (hW : WF sh ν f s) {a : Nat} (hA : isRule a) (k : Q (some (vI (bI (μ a 2 = 2 ∨ μ a 2 = 4)))) sh ν μ) : X mX7_isAlongY 0 [(0, vR a)] [] sh ν μ 0 0 Q := by
  refine g_X7_isAlongY_0 hW hA ⟨fun h => ?_, fun h => ⟨fun h2 => ?_, fun h2 => ?_⟩⟩
  · rw [bI_t (Or.inl h)] at k; exact k
  · rw [bI_f (by omega)] at k; exact k
  · rw [bI_t (Or.inr h2)] at k; exact k
theorem c_X7_isRepeat (hW : WF sh ν f s) {a : Nat} (hA : isRule a) (k : Q (some (vI (bI (μ a 2 = 3 ∨ μ a 2 = 4)))) sh ν μ) : X mX7_isRepeat 0 [(0, vR a)] [] sh ν μ 0 0 Q := by
  refine g_X7_isRepeat_0 hW hA ⟨fun h => ?_, fun h => ⟨fun h2 => ?_, fun h2 => ?_⟩⟩
  · rw [bI_t (Or.inl h)] at k; exact k
  · rw [bI_f (by omega)] at k; exact k
  · rw [bI_t (Or.inr h2)] at k; exact k
theorem c_X10_isAlongY (hW : WF sh ν f s) {x1 : Int} (h0 : 0 ≤ x1 ∧ x1 < (40 : Nat)) (k : Q (some (vI (bI (μ 267 (Int.toNat x1) = 2 ∨ μ 267 (Int.toNat x1) = 4)))) sh ν μ) : X mX10_isAlongY 0 [(0, vR 265), (1, vI x1)] [] sh ν μ 0 0 Q := by
  refine g_X10_isAlongY_0 hW ⟨h0, fun h => ?_, fun h => ⟨h0, fun h2 => ?_, fun h2 => ?_⟩⟩
  · rw [bI_t (Or.inl h)] at k; exact k
  · rw [bI_f (by omega)] at k; exact k
  · rw [bI_t (Or.inr h2)] at k; exact k
theorem c_X7_weight (hW : WF sh ν f s) {a : Nat} (hA : isRule a) (h0 : 0 ≤ μ a 3 ∧ μ a 3 ≤ 99) (k : Q (some (vL (μ a 3 * 1048576 + 1))) sh ν μ) : X mX7_weight 0 [(0, vR a)] [] sh ν μ 0 0 Q := by
  refine g_X7_weight_0 hW hA ?_
  rw [w64_id (x := μ a 3 * 1048576) (by omega) (by omega), w64_id (by omega) (by omega)]
  exact k
theorem c_X0_has (hW : WF sh ν f s) {x1 : Int} (k : Q (some (vI (bI (0 ≤ x1 ∧ x1 < 81 ∧ x1 % 9 < μ 211 1 ∧ x1 / 9 < μ 211 2)))) sh ν μ) : X mX0_has 0 [(0, vR 211), (1, vI x1)] [] sh ν μ 0 0 Q := by
  refine g_X0_has_0 hW ⟨fun h => ?_, fun h => ⟨fun h2 => ?_, fun h2 => ?_⟩⟩
  · rw [bI_f (by omega)] at k; exact k
  · rw [bI_f (by omega)] at k; exact k
  · rw [Int.tmod_eq_emod_of_nonneg h, Int.tdiv_eq_ediv_of_nonneg h, w32_id (x := x1 % 9) (by omega) (by omega), w32_id (x := x1 / 9) (by omega) (by omega)]
    refine ⟨fun h3 => ?_, fun h3 => ⟨fun h4 => ?_, fun h4 => ?_⟩⟩
    · rw [bI_f (by omega)] at k; exact k
    · rw [bI_f (by omega)] at k; exact k
    · rw [bI_t ⟨h, h2, h3, h4⟩] at k; exact k
theorem nsp_le {a : Nat} (hA : isChart a) : nsp a * nsp a * 8 ≤ 2147483647 := by
  rcases hA with rfl | rfl <;> decide
theorem c_X1_waysOf (hW : WF sh ν f s) {a : Nat} (hA : isChart a) {x1 : Int} (k : Q (some (vL (rdO (μ (a + 15) (Int.toNat x1)) 0 x1 (nsp a * nsp a * 8)))) sh ν μ) : X mX1_waysOf 0 [(0, vR a), (1, vI x1)] [] sh ν μ 0 0 Q := by
  unfold rdO at k
  refine g_X1_waysOf_0 hW hA ⟨fun h => ?_, fun h => ⟨nsp_le hA, fun h2 => ?_, fun h2 => ⟨⟨h, h2⟩, ?_⟩⟩⟩
  · rw [if_neg (by omega)] at k; exact k
  · rw [if_neg (by omega)] at k; exact k
  · rw [if_pos ⟨h, h2⟩] at k; exact k
theorem c_X1_weightOf (hW : WF sh ν f s) {a : Nat} (hA : isChart a) {x1 : Int} (k : Q (some (vL (rdO (μ (a + 16) (Int.toNat x1)) (-9) x1 (nsp a * nsp a * 8)))) sh ν μ) : X mX1_weightOf 0 [(0, vR a), (1, vI x1)] [] sh ν μ 0 0 Q := by
  unfold rdO at k
  refine g_X1_weightOf_0 hW hA ⟨fun h => ?_, fun h => ⟨nsp_le hA, fun h2 => ?_, fun h2 => ⟨⟨h, h2⟩, ?_⟩⟩⟩
  · rw [if_neg (by omega)] at k; exact k
  · rw [if_neg (by omega)] at k; exact k
  · rw [if_pos ⟨h, h2⟩] at k; exact k
theorem c_X1_pickOf (hW : WF sh ν f s) {a : Nat} (hA : isChart a) {x1 : Int} (k : Q (some (vI (rdO (μ (a + 17) (Int.toNat x1)) (-9) x1 (nsp a * nsp a * 8)))) sh ν μ) : X mX1_pickOf 0 [(0, vR a), (1, vI x1)] [] sh ν μ 0 0 Q := by
  unfold rdO at k
  refine g_X1_pickOf_0 hW hA ⟨fun h => ?_, fun h => ⟨nsp_le hA, fun h2 => ?_, fun h2 => ⟨⟨h, h2⟩, ?_⟩⟩⟩
  · rw [if_neg (by omega)] at k; exact k
  · rw [if_neg (by omega)] at k; exact k
  · rw [if_pos ⟨h, h2⟩] at k; exact k
/-- the number of a span -/
def spF (b x l : Int) : Int := if b = 0 then l - 1 else (l - 1) * (20 - l) / 2 + x
theorem c_X1_spanOf (hW : WF sh ν f s) {a : Nat} (hA : isChart a) {x1 x2 : Int} (h1 : 0 ≤ x1 ∧ x1 ≤ 20) (h2 : 1 ≤ x2 ∧ x2 ≤ 20) (k : Q (some (vI (spF (μ a 3) x1 x2))) sh ν μ) : X mX1_spanOf 0 [(0, vR a), (1, vI x1), (2, vI x2)] [] sh ν μ 0 0 Q := by
  unfold spF at k
  refine g_X1_spanOf_0 hW hA ⟨fun h => ?_, fun h => ?_⟩
  · rw [if_pos h] at k
    rw [w32_id (by omega) (by omega)]; exact k
  · rw [if_neg h] at k
    have e1 : w32 (x2 - 1) = x2 - 1 := w32_id (by omega) (by omega)
    have e2 : w32 (20 - x2) = 20 - x2 := w32_id (by omega) (by omega)
    have b0 : 0 ≤ (x2 - 1) * (20 - x2) := Int.mul_nonneg (by omega) (by omega)
    have b1 : (x2 - 1) * (20 - x2) ≤ 19 * (20 - x2) := Int.mul_le_mul_of_nonneg_right (by omega) (by omega)
    have e3 : w32 ((x2 - 1) * (20 - x2)) = (x2 - 1) * (20 - x2) := w32_id (by omega) (by omega)
    rw [e1, e2, e3, Int.tdiv_eq_ediv_of_nonneg b0]
    generalize hg : (x2 - 1) * (20 - x2) = g at *
    rw [w32_id (x := g / 2) (by omega) (by omega), w32_id (by omega) (by omega)]
    exact k
theorem c_X1_times (hW : WF sh ν f s) {x0 x2 : Int} (h0 : 0 ≤ x0 ∧ x0 ≤ (1000000000000000000 : Int)) (h2 : 0 ≤ x2 ∧ x2 ≤ (1000000000000000000 : Int)) (k : Q (some (vL (min (x0 * x2) (1000000000000000000 : Int)))) sh ν μ) : X mX1_times 0 [(0, vL x0), (2, vL x2)] [] sh ν μ 0 0 Q := by
  refine g_X1_times_0 hW ⟨fun h => ?_, fun h => ⟨by omega, fun h3 => ?_, fun h3 => ?_⟩⟩
  · have e : x2 = 0 := by omega
    subst e
    rw [Int.mul_zero] at k ⊢
    rw [w64_id (by omega) (by omega)]
    exact k
  · have e := w_div h
    have hm := w_mul0 h0.1 h2.1
    have hc := w_cap h0.1 h
    rw [show Int.tdiv 1000000000000000000 x2 = Int.tdiv (1000000000000000000 : Int) x2 from rfl, e] at h3
    rw [Int.min_eq_left (by omega)] at k
    rw [w64_id (by omega) (by omega)]
    exact k
  · have e := w_div h
    have hc := w_cap h0.1 h
    rw [show Int.tdiv 1000000000000000000 x2 = Int.tdiv (1000000000000000000 : Int) x2 from rfl, e] at h3
    rw [Int.min_eq_right (by omega)] at k
    exact k
theorem c_X4_plus (hW : WF sh ν f s) {x0 x2 : Int} (h0 : 0 ≤ x0 ∧ x0 ≤ (1000000000000000000 : Int)) (h2 : 0 ≤ x2 ∧ x2 ≤ (1000000000000000000 : Int)) (k : Q (some (vL (min (x0 + x2) (1000000000000000000 : Int)))) sh ν μ) : X mX4_plus 0 [(0, vL x0), (2, vL x2)] [] sh ν μ 0 0 Q := by
  refine g_X4_plus_0 hW ?_
  rw [w64_id (by omega) (by omega)]
  exact k
theorem c_X10_plus (hW : WF sh ν f s) {x0 x2 : Int} (h0 : wOK x0) (h2 : wOK x2) (k : Q (some (vL (wplus x0 x2))) sh ν μ) : X mX10_plus 0 [(0, vL x0), (2, vL x2)] [] sh ν μ 0 0 Q := by
  unfold wplus at k
  unfold wOK at h0 h2
  refine g_X10_plus_0 hW ⟨fun h => ?_, fun h => ⟨fun h3 => ?_, fun h3 => ?_⟩⟩
  · rw [if_pos (Or.inl h)] at k; exact k
  · rw [if_neg (by omega)] at k
    rw [w64_id (by omega) (by omega)]
    refine ⟨fun h4 => ?_, fun h4 => ?_⟩
    · rw [Int.min_eq_left (by omega)] at k; exact k
    · rw [Int.min_eq_right (by omega)] at k; exact k
  · rw [if_pos (Or.inr h3)] at k; exact k
theorem c_X10_mult (hW : WF sh ν f s) {x0 x2 : Int} (h0 : wOK x0) (h2 : wOK x2) (k : Q (some (vL (wmult x0 x2))) sh ν μ) : X mX10_mult 0 [(0, vL x0), (2, vL x2)] [] sh ν μ 0 0 Q := by
  unfold wmult at k
  unfold wOK at h0 h2
  refine g_X10_mult_0 hW ⟨fun h => ?_, fun h => ⟨fun h3 => ⟨fun h4 => ?_, fun h4 => ⟨fun h5 => ⟨h3, fun h6 => ?_, fun h6 => ?_⟩, fun h5 => ?_⟩⟩, fun h3 => ?_⟩⟩
  · rw [if_pos (Or.inl h)] at k; exact k
  · rw [if_neg (by omega), if_pos (Or.inl h4)] at k; exact k
  · have hp : 0 < x2 := by omega
    rw [if_neg (by omega), if_neg (by omega)] at k
    have e := w_div hp
    have hc := w_cap h4 hp
    have hm := w_mul0 h4 h5
    rw [show Int.tdiv 1000000000000000000 x2 = Int.tdiv (1000000000000000000 : Int) x2 from rfl, e] at h6
    rw [Int.min_eq_left (by omega)] at k
    rw [w64_id (by omega) (by omega)]
    exact k
  · have hp : 0 < x2 := by omega
    rw [if_neg (by omega), if_neg (by omega)] at k
    have e := w_div hp
    have hc := w_cap h4 hp
    rw [show Int.tdiv 1000000000000000000 x2 = Int.tdiv (1000000000000000000 : Int) x2 from rfl, e] at h6
    rw [Int.min_eq_right (by omega)] at k
    exact k
  · rw [if_neg (by omega), if_pos (Or.inr h5)] at k; exact k
  · rw [if_pos (Or.inr h3)] at k; exact k
/-- the reference's number of a scope's first name -/
def plF (b x y w h : Int) : Int := if b = 0 then 52488 + 8 * (20 * (h - 1) + w - 1) else 8 * (729 * y + 81 * x + 9 * (h - 1) + w - 1)
theorem c_X10_place (hW : WF sh ν f s) {x1 x2 x3 x4 : Int} (h1 : 0 ≤ x1 ∧ x1 ≤ 20) (h2 : 0 ≤ x2 ∧ x2 ≤ 20) (h3 : 1 ≤ x3 ∧ x3 ≤ 20) (h4 : 1 ≤ x4 ∧ x4 ≤ 20) (k : Q (some (vI (plF (μ 265 42) x1 x2 x3 x4))) sh ν μ) : X mX10_place 0 [(0, vR 265), (1, vI x1), (2, vI x2), (3, vI x3), (4, vI x4)] [] sh ν μ 0 0 Q := by
  unfold plF at k
  refine g_X10_place_0 hW ⟨fun h => ?_, fun h => ?_⟩
  · rw [if_pos h] at k
    rw [w32_id (x := x4 - 1) (by omega) (by omega), w32_id (x := 20 * (x4 - 1)) (by omega) (by omega), w32_id (x := 20 * (x4 - 1) + x3) (by omega) (by omega), w32_id (x := 20 * (x4 - 1) + x3 - 1) (by omega) (by omega), w32_id (x := 8 * (20 * (x4 - 1) + x3 - 1)) (by omega) (by omega), w32_id (by omega) (by omega)]
    exact k
  · rw [if_neg h] at k
    rw [w32_id (x := x4 - 1) (by omega) (by omega), w32_id (x := 9 * (x4 - 1)) (by omega) (by omega), w32_id (x := 81 * x1) (by omega) (by omega), w32_id (x := 729 * x2) (by omega) (by omega), w32_id (x := 729 * x2 + 81 * x1) (by omega) (by omega), w32_id (x := 729 * x2 + 81 * x1 + 9 * (x4 - 1)) (by omega) (by omega), w32_id (x := 729 * x2 + 81 * x1 + 9 * (x4 - 1) + x3) (by omega) (by omega), w32_id (x := 729 * x2 + 81 * x1 + 9 * (x4 - 1) + x3 - 1) (by omega) (by omega), w32_id (by omega) (by omega)]
    exact k
end C0
