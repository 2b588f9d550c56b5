/-! BEST on one cell: the equations of the least weights, and that they have one solution -/
/-- rule r of name nm r brings weight w: by itself (bA, bW), or by a tie to k (tA, tW) -/
def bVal (bA : Nat → Prop) (bW : Nat → Int) (tA : Nat → Nat → Prop) (tW : Nat → Int) (B : Nat → Int) (r : Nat) (w : Int) : Prop := (bA r ∧ w = bW r) ∨ ∃ k, k < 8 ∧ tA r k ∧ B k ≠ -9 ∧ w = tW r + B k
def bEq (nR : Nat) (nm : Nat → Nat) (bA : Nat → Prop) (bW : Nat → Int) (tA : Nat → Nat → Prop) (tW : Nat → Int) (B : Nat → Int) : Prop := ∀ n, n < 8 → (B n = -9 ∧ ∀ r, r < nR → nm r = n → ∀ w, ¬ bVal bA bW tA tW B r w) ∨ (1 ≤ B n ∧ (∃ r, r < nR ∧ nm r = n ∧ bVal bA bW tA tW B r (B n)) ∧ ∀ r, r < nR → nm r = n → ∀ w, bVal bA bW tA tW B r w → B n ≤ w)
section BE
variable {nR : Nat} {nm : Nat → Nat} {bA : Nat → Prop} {bW : Nat → Int} {tA : Nat → Nat → Prop} {tW : Nat → Int} {B B' : Nat → Int}
theorem bEq_half (ht : ∀ r, 1 ≤ tW r) (h : bEq nR nm bA bW tA tW B) (h' : bEq nR nm bA bW tA tW B') {w : Nat} (h1 : ∀ v : Nat, v < w → 1 ≤ v → ∀ n, n < 8 → B n = v → B' n = v) (h2 : ∀ v : Nat, v < w → 1 ≤ v → ∀ n, n < 8 → B' n = v → B n = v) {n : Nat} (hn : n < 8) (hw : 1 ≤ w) (e : B n = w) : B' n = w := by
  rcases h n hn with ⟨q, -⟩ | ⟨-, ⟨r, hr, hnm, hv⟩, -⟩
  · omega
  · have hv' : bVal bA bW tA tW B' r w := by
      rcases hv with ⟨a1, a2⟩ | ⟨k, hk, a1, a2, a3⟩
      · exact Or.inl ⟨a1, by omega⟩
      · have hB : 1 ≤ B k := by
          rcases h k hk with ⟨q, -⟩ | ⟨q, -, -⟩
          · exact absurd q a2
          · exact q
        have := ht r
        have ek := h1 (Int.toNat (B k)) (by omega) (by omega) k hk (by omega)
        exact Or.inr ⟨k, hk, a1, by omega, by omega⟩
    rcases h' n hn with ⟨-, q⟩ | ⟨q1, -, q2⟩
    · exact absurd hv' (q r hr hnm _)
    · have hle := q2 r hr hnm _ hv'
      refine Classical.byContradiction fun hc => ?_
      have := h2 (Int.toNat (B' n)) (by omega) (by omega) n hn (by omega)
      omega
theorem bEq_uniq (ht : ∀ r, 1 ≤ tW r) (h : bEq nR nm bA bW tA tW B) (h' : bEq nR nm bA bW tA tW B') {n : Nat} (hn : n < 8) : B n = B' n := by
  have key : ∀ w : Nat, ∀ v : Nat, v < w → 1 ≤ v → ∀ n, n < 8 → (B n = v → B' n = v) ∧ (B' n = v → B n = v) := by
    intro w
    induction w with
    | zero => intro v hv; exact absurd hv (Nat.not_lt_zero v)
    | succ w ih =>
      intro v hv hv1 n hn
      exact ⟨fun e => bEq_half ht h h' (fun u hu hu1 n hn => (ih u (by omega) hu1 n hn).1) (fun u hu hu1 n hn => (ih u (by omega) hu1 n hn).2) hn hv1 e, fun e => bEq_half ht h' h (fun u hu hu1 n hn => (ih u (by omega) hu1 n hn).2) (fun u hu hu1 n hn => (ih u (by omega) hu1 n hn).1) hn hv1 e⟩
  rcases h n hn with ⟨q, -⟩ | ⟨q, -, -⟩
  · rcases h' n hn with ⟨q', -⟩ | ⟨q', -, -⟩
    · omega
    · have := (key (Int.toNat (B' n) + 1) (Int.toNat (B' n)) (by omega) (by omega) n hn).2 (by omega)
      omega
  · have := (key (Int.toNat (B n) + 1) (Int.toNat (B n)) (by omega) (by omega) n hn).1 (by omega)
    omega
end BE
