/-! loops that count up; rows filled -/
theorem loop_up {S : Type} (n : Nat) (I : Nat → S → Prop) (G : Nat → S → Prop) (he : ∀ s, I n s → G n s) (hs : ∀ i s, i < n → I i s → (∀ s', I (i + 1) s' → G (i + 1) s') → G i s) : ∀ (i : Nat) (s : S), i ≤ n → I i s → G i s := by
  have h : ∀ (d i : Nat) (s : S), i + d = n → I i s → G i s := by
    intro d
    induction d with
    | zero =>
      intro i s hi hI
      have : i = n := by omega
      subst this
      exact he s hI
    | succ d ih =>
      intro i s hi hI
      exact hs i s (by omega) hI fun s' h' => ih (i + 1) s' (by omega) h'
  intro i s hi hI
  exact h (n - i) i s (by omega) hI
theorem wi1 {i : Nat} (h : i < 2147483647) : w32 ((i : Int) + 1) = ((i + 1 : Nat) : Int) := by rw [w32_id (by omega) (by omega)]; omega
theorem i01 {i n : Nat} (h : i < n) : 0 ≤ (i : Int) ∧ (i : Int) < (n : Nat) := by omega
/-- places lo to hi of row a hold v -/
def filA (μ : Nat → Nat → Int) (a lo hi : Nat) (v : Int) : Nat → Nat → Int := fun b j => if b = a ∧ lo ≤ j ∧ j < hi then v else μ b j
theorem filA_0 (μ : Nat → Nat → Int) (a lo : Nat) (v : Int) : filA μ a lo lo v = μ := by
  funext b j
  exact if_neg (by omega)
theorem filA_1 (μ : Nat → Nat → Int) (a lo hi : Nat) (v : Int) (h : lo ≤ hi) : up (filA μ a lo hi v) a hi v = filA μ a lo (hi + 1) v := by
  funext b j
  unfold up filA
  by_cases h1 : b = a ∧ j = hi
  · rw [if_pos h1, if_pos (by omega)]
  · rw [if_neg h1]
    by_cases h2 : b = a ∧ lo ≤ j ∧ j < hi
    · rw [if_pos h2, if_pos (by omega)]
    · rw [if_neg h2, if_neg (by omega)]
theorem filA_in {μ : Nat → Nat → Int} {a lo hi j : Nat} {v : Int} (h1 : lo ≤ j) (h2 : j < hi) : filA μ a lo hi v a j = v := if_pos ⟨rfl, h1, h2⟩
theorem filA_out {μ : Nat → Nat → Int} {a lo hi b j : Nat} {v : Int} (h : b ≠ a) : filA μ a lo hi v b j = μ b j := if_neg fun q => h q.1
section C1
variable {sh : List (Nat × Nat)} {ν : Nat → Nat → Option Nat} {μ : Nat → Nat → Int} {f s : Nat} {Q : xQ}
theorem c_J7_fill_53178 (hW : WF sh ν f s) {a N : Nat} (ha : sh[a]? = some (0, N)) {v : Int} (hN : N ≤ 2147483646) (k : Q none sh ν (filA μ a 0 N v)) : X mJ7_fill_53178 0 [(0, vR a), (1, vI v)] [] sh ν μ 0 0 Q := by
  refine g_J7_fill_53178_0 hW ha ⟨by omega, ?_⟩
  refine loop_up N (fun i m => m = filA μ a 0 i v) (fun i m => X mJ7_fill_53178 5 [(0, vR a), (1, vI v), (2, vI (i : Nat)), (3, vI (N : Nat))] [] sh ν m 0 0 Q) ?_ ?_ 0 μ (Nat.zero_le _) (filA_0 _ _ _ _).symm
  · rintro _ rfl
    exact g_J7_fill_53178_5 hW ha ⟨fun _ => k, fun h => absurd h (by omega)⟩
  · rintro i _ hi rfl ih
    refine g_J7_fill_53178_5 hW ha ⟨fun h => absurd h (by omega), fun _ => ⟨i01 hi, ?_⟩⟩
    rw [wi1 (by omega), Int.toNat_natCast, filA_1 _ _ _ _ _ (Nat.zero_le _)]
    exact ih _ rfl
theorem c_J7_fill_d0a16 (hW : WF sh ν f s) {a N : Nat} (ha : sh[a]? = some (1, N)) {v : Int} (hN : N ≤ 2147483646) (k : Q none sh ν (filA μ a 0 N v)) : X mJ7_fill_d0a16 0 [(0, vR a), (1, vL v)] [] sh ν μ 0 0 Q := by
  refine g_J7_fill_d0a16_0 hW ha ⟨by omega, ?_⟩
  refine loop_up N (fun i m => m = filA μ a 0 i v) (fun i m => X mJ7_fill_d0a16 6 [(0, vR a), (1, vL v), (3, vI (i : Nat)), (4, vI (N : Nat))] [] sh ν m 0 0 Q) ?_ ?_ 0 μ (Nat.zero_le _) (filA_0 _ _ _ _).symm
  · rintro _ rfl
    exact g_J7_fill_d0a16_6 hW ha ⟨fun _ => k, fun h => absurd h (by omega)⟩
  · rintro i _ hi rfl ih
    refine g_J7_fill_d0a16_6 hW ha ⟨fun h => absurd h (by omega), fun _ => ⟨i01 hi, ?_⟩⟩
    rw [wi1 (by omega), Int.toNat_natCast, filA_1 _ _ _ _ _ (Nat.zero_le _)]
    exact ih _ rfl
theorem c_J7_fill_031fb (hW : WF sh ν f s) {a N : Nat} (ha : sh[a]? = some (2, N)) {v : Int} (hN : N ≤ 2147483646) (k : Q none sh ν (filA μ a 0 N (w8 v))) : X mJ7_fill_031fb 0 [(0, vR a), (1, vI v)] [] sh ν μ 0 0 Q := by
  refine g_J7_fill_031fb_0 hW ha ⟨by omega, ?_⟩
  refine loop_up N (fun i m => m = filA μ a 0 i (w8 v)) (fun i m => X mJ7_fill_031fb 5 [(0, vR a), (1, vI v), (2, vI (i : Nat)), (3, vI (N : Nat))] [] sh ν m 0 0 Q) ?_ ?_ 0 μ (Nat.zero_le _) (filA_0 _ _ _ _).symm
  · rintro _ rfl
    exact g_J7_fill_031fb_5 hW ha ⟨fun _ => k, fun h => absurd h (by omega)⟩
  · rintro i _ hi rfl ih
    refine g_J7_fill_031fb_5 hW ha ⟨fun h => absurd h (by omega), fun _ => ⟨i01 hi, ?_⟩⟩
    rw [wi1 (by omega), Int.toNat_natCast, filA_1 _ _ _ _ _ (Nat.zero_le _)]
    exact ih _ rfl
theorem c_J7_rangeCheck_23922 (hW : WF sh ν f s) {x0 x1 x2 : Int} (h : 0 ≤ x1 ∧ x1 ≤ x2 ∧ x2 ≤ x0) (k : Q none sh ν μ) : X mJ7_rangeCheck_23922 0 [(0, vI x0), (1, vI x1), (2, vI x2)] [] sh ν μ 0 0 Q :=
  g_J7_rangeCheck_23922_0 hW ⟨fun _ => ⟨fun _ => ⟨fun _ => k, fun q => by omega⟩, fun q => by omega⟩, fun q => by omega⟩
end C1
