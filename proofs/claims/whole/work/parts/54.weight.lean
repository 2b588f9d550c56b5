/-! a cost and a number of rules as one weight; the measure that falls -/
def wt (c f : Int) : Int := c * 1048576 + f
theorem lexl_wt {c f c' f' : Int} (hf : 0 ≤ f ∧ f < 1048576) (hf' : 0 ≤ f' ∧ f' < 1048576) : lexl c f c' f' ↔ wt c f < wt c' f' := by
  unfold lexl wt
  omega
theorem wt_inj {c f c' f' : Int} (hf : 0 ≤ f ∧ f < 1048576) (hf' : 0 ≤ f' ∧ f' < 1048576) : wt c f = wt c' f' ↔ c = c' ∧ f = f' := by
  unfold wt
  omega
def encN (b c f : Int) : Nat := if b = -9 then 1000000000000000000 else Int.toNat (wt c f * 64 + b)
theorem encN_lt {b c f C F r : Int} (hr : 0 ≤ r ∧ r < 40) (hCF : (0 ≤ C ∧ C ≤ 10000000) ∧ 0 ≤ F ∧ F < 1048576) (hb : b ≠ -9 → (0 ≤ b ∧ b < 40) ∧ (0 ≤ c ∧ c ≤ 10000000) ∧ 0 ≤ f ∧ f < 1048576) (h : b = -9 ∨ lexl C F c f ∨ (C = c ∧ F = f ∧ r < b)) : encN r C F < encN b c f := by
  unfold encN
  rw [if_neg (show r ≠ -9 by omega)]
  by_cases q : b = -9
  · rw [if_pos q]
    unfold wt
    omega
  · rw [if_neg q]
    obtain ⟨h1, h2, h3⟩ := hb q
    unfold lexl at h
    unfold wt
    omega
def sumT : Nat → (Nat → Nat) → Nat
  | 0, _ => 0
  | n + 1, g => sumT n g + g n
theorem sumT_congr {n : Nat} {g g' : Nat → Nat} (h : ∀ i, i < n → g' i = g i) : sumT n g' = sumT n g := by
  induction n with
  | zero => rfl
  | succ n ih => show sumT n g' + g' n = sumT n g + g n; rw [ih fun i hi => h i (by omega), h n (by omega)]
theorem sumT_lt {n k : Nat} {g g' : Nat → Nat} (hk : k < n) (h : g' k < g k) (ho : ∀ i, i < n → i ≠ k → g' i = g i) : sumT n g' < sumT n g := by
  induction n with
  | zero => omega
  | succ n ih =>
    show sumT n g' + g' n < sumT n g + g n
    by_cases e : k = n
    · subst e
      rw [sumT_congr (g := g) (g' := g') fun i hi => ho i (by omega) (by omega)]
      omega
    · have := ih (by omega) fun i hi hik => ho i (by omega) hik
      rw [ho n (by omega) (by omega)]
      omega
