/-! waiting places: what a rule makes of one -/
abbrev WP : Type := Int × Int × Int × Int × Int × Int × Int
abbrev wn (T : WP) : Int := T.1
abbrev wx (T : WP) : Int := T.2.1
abbrev wy (T : WP) : Int := T.2.2.1
abbrev ww (T : WP) : Int := T.2.2.2.1
abbrev wh (T : WP) : Int := T.2.2.2.2.1
abbrev wk (T : WP) : Int := T.2.2.2.2.2.1
abbrev wd (T : WP) : Int := T.2.2.2.2.2.2
def ar (T : WP) : Int := ww T * wh T
def okW (W H : Int) (T : WP) : Prop := (0 ≤ wn T ∧ wn T ≤ 7) ∧ (0 ≤ wx T ∧ 1 ≤ ww T ∧ wx T + ww T ≤ W) ∧ 0 ≤ wy T ∧ 1 ≤ wh T ∧ wy T + wh T ≤ H
def inW (T : WP) (x y : Int) : Prop := (wx T ≤ x ∧ x < wx T + ww T) ∧ wy T ≤ y ∧ y < wy T + wh T
def subKey (k : Int) (i : Nat) : Int := w32 (w32 (w32 (31 * k) + i) + 1)
def pieceP (d : RD) (T : WP) (i : Nat) : WP := if rk d = 2 ∨ rk d = 4 then (pcNm d i, wx T, wy T + pcB d (ww T) (wh T) i, ww T, pcL d (ww T) (wh T) i, subKey (wk T) i, wd T + 1) else (pcNm d i, wx T + pcB d (ww T) (wh T) i, wy T, pcL d (ww T) (wh T) i, wh T, subKey (wk T) i, wd T + 1)
def spreadP (L : Nat) (P : Nat → WP) (d : RD) (T : WP) : Nat → WP := fun k => if L ≤ k then pieceP d T (pcN d (ww T) (wh T) - 1 - (k - L)) else P k
theorem ar_pos {W H : Int} {T : WP} (h : okW W H T) : 1 ≤ ar T := by
  have h1 := h.2.1.2.1
  have h2 := h.2.2.2.1
  have := Int.mul_le_mul h1 h2 (by decide) (by omega)
  unfold ar
  omega
theorem okW_sc {W H : Int} {T : WP} (hW : W ≤ 20) (hH : H ≤ 20) (h : okW W H T) : isSc (ww T) (wh T) := by
  obtain ⟨-, ⟨h1, h2, h3⟩, h4, h5, h6⟩ := h
  exact ⟨by omega, by omega⟩
theorem sumN_le_n {n m : Nat} {f : Nat → Int} (hnm : n ≤ m) (h : ∀ i, i < m → 0 ≤ f i) : sumN n f ≤ sumN m f := by
  induction m with
  | zero => rw [show n = 0 by omega]; exact Int.le_refl _
  | succ m ih =>
    by_cases e : n = m + 1
    · rw [e]; exact Int.le_refl _
    · have h1 := ih (by omega) fun i hi => h i (by omega)
      have h2 := h m (by omega)
      show sumN n f ≤ sumN m f + f m
      omega
theorem sumN_app {a b : Nat} {f : Nat → Int} : sumN (a + b) f = sumN a f + sumN b (fun i => f (a + i)) := by
  induction b with
  | zero => show sumN a f = sumN a f + 0; omega
  | succ b ih => show sumN (a + b) f + f (a + b) = sumN a f + (sumN b (fun i => f (a + i)) + f (a + b)); rw [ih]; omega
section PP
variable {d : RD} {T : WP} {W H : Int} {x y : Int} {L : Nat} {P : Nat → WP}
theorem pieceP_t (h : rk d = 2 ∨ rk d = 4) (i : Nat) : pieceP d T i = (pcNm d i, wx T, wy T + pcB d (ww T) (wh T) i, ww T, pcL d (ww T) (wh T) i, subKey (wk T) i, wd T + 1) := if_pos h
theorem pieceP_f (h : ¬ (rk d = 2 ∨ rk d = 4)) (i : Nat) : pieceP d T i = (pcNm d i, wx T + pcB d (ww T) (wh T) i, wy T, pcL d (ww T) (wh T) i, wh T, subKey (wk T) i, wd T + 1) := if_neg h
theorem pieceP_d (i : Nat) : wd (pieceP d T i) = wd T + 1 := by
  by_cases h : rk d = 2 ∨ rk d = 4
  · rw [pieceP_t h]
  · rw [pieceP_f h]
theorem pcNm_b (ho : okR d) (hk : rk d ≠ 0) {w h : Int} {i : Nat} (hi : i < pcN d w h) : 0 ≤ pcNm d i ∧ pcNm d i ≤ 7 := by
  obtain ⟨o1, o2, o3, o4, o5, o6, o7, o8, o9, o10⟩ := ho
  unfold pcNm
  unfold pcN at hi
  rw [if_neg hk] at hi
  split
  · rename_i q
    rw [if_pos q] at hi
    exact (o10 i hi).1
  · have := o7 hk
    exact (o10 0 (by omega)).1
theorem pcB_b (ho : okR d) {w h : Int} (hs : isSc w h) (hh : holdsF d w h) (hk : rk d ≠ 0) {i : Nat} (hi : i < pcN d w h) : 0 ≤ pcB d w h i ∧ 1 ≤ pcL d w h i ∧ pcB d w h i + pcL d w h i ≤ rLn d w h := by
  obtain ⟨t1, t2⟩ := pc_total ho hs hh hk
  have h1 : 0 ≤ pcB d w h i := sumN_nn fun j hj => by have := t2 j (by omega); omega
  have h2 : sumN (i + 1) (pcL d w h) ≤ sumN (pcN d w h) (pcL d w h) := sumN_le_n (by omega) fun j hj => by have := t2 j hj; omega
  have h3 : sumN (i + 1) (pcL d w h) = pcB d w h i + pcL d w h i := rfl
  exact ⟨h1, t2 i hi, by omega⟩
theorem pieceP_ok (ho : okR d) (hT : okW W H T) (hW : W ≤ 20) (hH : H ≤ 20) (hh : holdsF d (ww T) (wh T)) (hk : rk d ≠ 0) {i : Nat} (hi : i < pcN d (ww T) (wh T)) : okW W H (pieceP d T i) := by
  have hs := okW_sc hW hH hT
  have h1 := pcNm_b ho hk hi
  obtain ⟨b1, b2, b3⟩ := pcB_b ho hs hh hk hi
  obtain ⟨-, ⟨t1, t2, t3⟩, t4, t5, t6⟩ := hT
  by_cases h : rk d = 2 ∨ rk d = 4
  · have e : rLn d (ww T) (wh T) = wh T := if_pos h
    rw [e] at b3
    rw [pieceP_t h]
    exact ⟨h1, ⟨t1, t2, t3⟩, by show 0 ≤ wy T + _; omega, b2, by show wy T + pcB d (ww T) (wh T) i + pcL d (ww T) (wh T) i ≤ H; omega⟩
  · have e : rLn d (ww T) (wh T) = ww T := if_neg h
    rw [e] at b3
    rw [pieceP_f h]
    exact ⟨h1, ⟨by show 0 ≤ wx T + _; omega, b2, by show wx T + pcB d (ww T) (wh T) i + pcL d (ww T) (wh T) i ≤ W; omega⟩, t4, t5, t6⟩
theorem pieceP_area (ho : okR d) (hs : isSc (ww T) (wh T)) (hh : holdsF d (ww T) (wh T)) (hk : rk d ≠ 0) : sumN (pcN d (ww T) (wh T)) (fun i => ar (pieceP d T i)) = ar T := by
  obtain ⟨t1, t2⟩ := pc_total ho hs hh hk
  by_cases h : rk d = 2 ∨ rk d = 4
  · have e : rLn d (ww T) (wh T) = wh T := if_pos h
    rw [e] at t1
    rw [sumN_congr (g := fun i => ww T * pcL d (ww T) (wh T) i) fun i _ => by rw [pieceP_t h]; rfl, sumN_mulc]
    show ww T * sumN _ (pcL d (ww T) (wh T)) = _
    rw [t1]; rfl
  · have e : rLn d (ww T) (wh T) = ww T := if_neg h
    rw [e] at t1
    rw [sumN_congr (g := fun i => wh T * pcL d (ww T) (wh T) i) fun i _ => by rw [pieceP_f h]; show pcL d (ww T) (wh T) i * wh T = _; rw [Int.mul_comm], sumN_mulc]
    show wh T * sumN _ (pcL d (ww T) (wh T)) = _
    rw [t1, Int.mul_comm]; rfl
theorem pieceP_cover (ho : okR d) (hs : isSc (ww T) (wh T)) (hh : holdsF d (ww T) (wh T)) (hk : rk d ≠ 0) (hin : inW T x y) : ∃ i, i < pcN d (ww T) (wh T) ∧ inW (pieceP d T i) x y := by
  obtain ⟨t1, t2⟩ := pc_total ho hs hh hk
  obtain ⟨⟨a1, a2⟩, a3, a4⟩ := hin
  by_cases h : rk d = 2 ∨ rk d = 4
  · have e : rLn d (ww T) (wh T) = wh T := if_pos h
    rw [e] at t1
    obtain ⟨i, hi, c1, c2⟩ := sumN_find (n := pcN d (ww T) (wh T)) (len := pcL d (ww T) (wh T)) (t := y - wy T) (by omega) (by omega)
    refine ⟨i, hi, ?_⟩
    have e2 : pcB d (ww T) (wh T) i = sumN i (pcL d (ww T) (wh T)) := rfl
    rw [pieceP_t h]
    refine ⟨⟨a1, a2⟩, ?_, ?_⟩
    · show wy T + pcB d (ww T) (wh T) i ≤ y; omega
    · show y < wy T + pcB d (ww T) (wh T) i + pcL d (ww T) (wh T) i; omega
  · have e : rLn d (ww T) (wh T) = ww T := if_neg h
    rw [e] at t1
    obtain ⟨i, hi, c1, c2⟩ := sumN_find (n := pcN d (ww T) (wh T)) (len := pcL d (ww T) (wh T)) (t := x - wx T) (by omega) (by omega)
    refine ⟨i, hi, ?_⟩
    have e2 : pcB d (ww T) (wh T) i = sumN i (pcL d (ww T) (wh T)) := rfl
    rw [pieceP_f h]
    refine ⟨⟨?_, ?_⟩, a3, a4⟩
    · show wx T + pcB d (ww T) (wh T) i ≤ x; omega
    · show x < wx T + pcB d (ww T) (wh T) i + pcL d (ww T) (wh T) i; omega
theorem spreadP_lo {k : Nat} (h : k < L) : spreadP L P d T k = P k := if_neg (by omega)
theorem spreadP_hi {i : Nat} (h : i < pcN d (ww T) (wh T)) : spreadP L P d T (L + (pcN d (ww T) (wh T) - 1 - i)) = pieceP d T i := by
  unfold spreadP
  rw [if_pos (by omega)]
  congr 1
  omega
theorem spreadP_sum (g : WP → Int) : sumN (L + pcN d (ww T) (wh T)) (fun k => g (spreadP L P d T k)) = sumN L (fun k => g (P k)) + sumN (pcN d (ww T) (wh T)) (fun i => g (pieceP d T i)) := by
  rw [sumN_app]
  have e1 : sumN L (fun k => g (spreadP L P d T k)) = sumN L (fun k => g (P k)) := sumN_congr fun i hi => by rw [spreadP_lo hi]
  have e2 : sumN (pcN d (ww T) (wh T)) (fun i => g (spreadP L P d T (L + i))) = sumN (pcN d (ww T) (wh T)) (fun i => (fun j => g (pieceP d T j)) (pcN d (ww T) (wh T) - 1 - i)) := sumN_congr fun i hi => by
    unfold spreadP
    rw [if_pos (by omega), show L + i - L = i by omega]
  have e3 := sumN_rev (n := pcN d (ww T) (wh T)) (f := fun j => g (pieceP d T j))
  rw [e1, e2]
  rw [e3]
theorem spreadP_all {p : WP → Prop} (h1 : ∀ k, k < L → p (P k)) (h2 : ∀ i, i < pcN d (ww T) (wh T) → p (pieceP d T i)) {k : Nat} (hk : k < L + pcN d (ww T) (wh T)) : p (spreadP L P d T k) := by
  by_cases h : k < L
  · rw [spreadP_lo h]; exact h1 k h
  · unfold spreadP
    rw [if_pos (by omega)]
    exact h2 _ (by omega)
end PP
