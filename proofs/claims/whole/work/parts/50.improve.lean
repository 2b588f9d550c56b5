/-! the improve machine: few stays small (the ghost chain) -/
def lexl (c f c' f' : Int) : Prop := c < c' ∨ (c = c' ∧ f < f')
def cardS (S : Nat → Bool) : Int := sumN 8 (fun m => if S m = true then 1 else 0)
theorem cardS_8 (S : Nat → Bool) : cardS S ≤ 8 := by
  have := sumN_le (n := 8) (f := fun m => if S m = true then 1 else 0) (m := 1) fun i _ => by
    show 0 ≤ (if S i = true then (1 : Int) else 0) ∧ (if S i = true then (1 : Int) else 0) ≤ 1
    split <;> omega
  exact this.2
theorem cardS_ins {S : Nat → Bool} {n : Nat} (hn : n < 8) (h : S n = false) : cardS (fun m => m == n || S m) = cardS S + 1 := by
  have e : ∀ N, N ≤ 8 → sumN N (fun m => if (m == n || S m) = true then (1 : Int) else 0) = sumN N (fun m => if S m = true then (1 : Int) else 0) + (if n < N then 1 else 0) := by
    intro N
    induction N with
    | zero => intro _; rfl
    | succ N ih =>
      intro hN
      show sumN N _ + (if (N == n || S N) = true then (1 : Int) else 0) = (sumN N _ + (if S N = true then (1 : Int) else 0)) + _
      rw [ih (by omega)]
      by_cases q : N = n
      · subst q
        rw [h, if_neg (show ¬ N < N by omega), if_pos (show N < N + 1 by omega)]
        simp
      · have hb : (N == n) = false := by simp [q]
        rw [hb, Bool.false_or]
        by_cases z : n < N
        · rw [if_pos z, if_pos (show n < N + 1 by omega)]; omega
        · rw [if_neg z, if_neg (show ¬ n < N + 1 by omega)]; omega
  have := e 8 (Nat.le_refl _)
  rw [if_pos hn] at this
  exact this
theorem cardS_one {n : Nat} (hn : n < 8) : cardS (fun m => m == n) = 1 := by
  have h0 : cardS (fun _ => false) = 0 := sumN_0 fun i _ => by simp
  have := cardS_ins (S := fun _ => false) hn rfl
  rw [h0] at this
  have e : (fun m : Nat => m == n || false) = fun m => m == n := by funext m; simp
  rw [e] at this
  omega
/-- the values of a cell's names: b the rule or -9, c the cost, f the number of rules -/
def chainI (M : Int) (b c f : Nat → Int) (S : Nat → Nat → Bool) : Prop := ∀ n, n < 8 → b n ≠ -9 → f n ≤ M + cardS (S n) ∧ (0 ≤ c n ∧ c n ≤ 99 * f n ∧ 1 ≤ f n) ∧ ∀ m, m < 8 → S n m = true → m = n ∨ (b m ≠ -9 ∧ lexl (c m) (f m) (c n) (f n))
def setA (g : Nat → Int) (n : Nat) (v : Int) : Nat → Int := fun m => if m = n then v else g m
theorem setA_s (g : Nat → Int) (n : Nat) (v : Int) : setA g n v n = v := if_pos rfl
theorem setA_o {g : Nat → Int} {n m : Nat} {v : Int} (h : m ≠ n) : setA g n v m = g m := if_neg h
def setS (S : Nat → Nat → Bool) (n : Nat) (T : Nat → Bool) : Nat → Nat → Bool := fun m => if m = n then (fun p => p == n || T p) else S m
theorem setS_s (S : Nat → Nat → Bool) (n : Nat) (T : Nat → Bool) : setS S n T n = fun p => p == n || T p := if_pos rfl
theorem setS_o {S : Nat → Nat → Bool} {n m : Nat} {T : Nat → Bool} (h : m ≠ n) : setS S n T m = S m := if_neg h
section CH
variable {M : Int} {b c f : Nat → Int} {S : Nat → Nat → Bool} {n k : Nat} {C F r : Int}
theorem chain_bound (h : chainI M b c f S) (hn : n < 8) (hb : b n ≠ -9) : f n ≤ M + 8 ∧ 1 ≤ f n ∧ 0 ≤ c n ∧ c n ≤ 99 * f n := by
  have h1 := h n hn hb
  have h2 := cardS_8 (S n)
  omega
/-- only the rule changes -/
theorem chain_same (h : chainI M b c f S) (hb : b n ≠ -9) (hr : r ≠ -9) : chainI M (setA b n r) c f S := by
  have hbb : ∀ m, setA b n r m ≠ -9 ↔ b m ≠ -9 := fun m => by
    by_cases q : m = n
    · subst q; rw [setA_s]; exact ⟨fun _ => hb, fun _ => hr⟩
    · rw [setA_o q]
  intro m hm hbm
  obtain ⟨h1, h2, h3⟩ := h m hm ((hbb m).1 hbm)
  exact ⟨h1, h2, fun p hp hs => (h3 p hp hs).imp id fun z => ⟨(hbb p).2 z.1, z.2⟩⟩
/-- a name gets a lesser value, made with the names T -/
theorem chain_put (h : chainI M b c f S) (hn : n < 8) (hr : r ≠ -9) (hlt : b n = -9 ∨ lexl C F (c n) (f n)) {T : Nat → Bool} (hTn : T n = false) (hT : ∀ m, m < 8 → T m = true → b m ≠ -9 ∧ lexl (c m) (f m) C F) (hF : F ≤ M + (cardS T + 1)) (hC : 0 ≤ C ∧ C ≤ 99 * F ∧ 1 ≤ F) : chainI M (setA b n r) (setA c n C) (setA f n F) (setS S n T) := by
  intro m hm hbm
  by_cases q : m = n
  · subst q
    rw [setA_s, setA_s]
    refine ⟨?_, hC, fun p hp hs => ?_⟩
    · rw [setS_s, cardS_ins hm hTn]; exact hF
    · rw [setS_s] at hs
      have hs : (p == m || T p) = true := hs
      by_cases z : p = m
      · exact Or.inl z
      · have hb : (p == m) = false := by simp [z]
        rw [hb, Bool.false_or] at hs
        right
        rw [setA_o z, setA_o z, setA_o z]
        exact hT p hp hs
  · rw [setA_o q] at hbm
    obtain ⟨h1, h2, h3⟩ := h m hm hbm
    rw [setA_o q, setA_o q, setS_o q]
    refine ⟨h1, h2, fun p hp hs => ?_⟩
    rcases h3 p hp hs with z | ⟨z1, z2⟩
    · exact Or.inl z
    · right
      by_cases y : p = n
      · subst y
        rw [setA_s, setA_s, setA_s]
        refine ⟨hr, ?_⟩
        rcases hlt with w | w
        · exact absurd w z1
        · unfold lexl at *; omega
      · rw [setA_o y, setA_o y, setA_o y]; exact ⟨z1, z2⟩
/-- by a tie to k -/
theorem chain_tie (h : chainI M b c f S) (hn : n < 8) (hk : k < 8) (hbk : b k ≠ -9) (hr : r ≠ -9) {rc0 : Int} (hrc : 0 ≤ rc0 ∧ rc0 ≤ 99) (hlt : b n = -9 ∨ lexl (rc0 + c k) (1 + f k) (c n) (f n)) : ∃ S', chainI M (setA b n r) (setA c n (rc0 + c k)) (setA f n (1 + f k)) S' := by
  obtain ⟨h1, h2, h3⟩ := h k hk hbk
  have hTn : S k n = false := by
    cases e : S k n with
    | false => rfl
    | true =>
      exfalso
      rcases h3 n hn e with z | ⟨z1, z2⟩
      · subst z
        rcases hlt with w | w
        · exact hbk w
        · unfold lexl at w; omega
      · rcases hlt with w | w
        · exact z1 w
        · unfold lexl at *; omega
  refine ⟨_, chain_put h hn hr hlt (T := S k) hTn (fun m hm hs => ?_) (by omega) (by omega)⟩
  rcases h3 m hm hs with z | ⟨z1, z2⟩
  · subst z
    exact ⟨hbk, by unfold lexl; omega⟩
  · exact ⟨z1, by unfold lexl at *; omega⟩
/-- by pieces of lesser cells, or a letter -/
theorem chain_base (h : chainI M b c f S) (hn : n < 8) (hr : r ≠ -9) (hlt : b n = -9 ∨ lexl C F (c n) (f n)) (hF : F ≤ M + 1) (hC : 0 ≤ C ∧ C ≤ 99 * F ∧ 1 ≤ F) : ∃ S', chainI M (setA b n r) (setA c n C) (setA f n F) S' := by
  have h0 : cardS (fun _ => false) = 0 := sumN_0 fun i _ => by simp
  exact ⟨_, chain_put h hn hr hlt (T := fun _ => false) rfl (fun m _ hs => by simp at hs) (by omega) hC⟩
end CH
