/-! the drawing, as a machine on waiting places -/
abbrev DO : Type := Int × Int × Nat × (Nat → Int) × Int × (Nat → Option Int)
noncomputable def paintC (cv : Nat → Option Int) (T : WP) (v : Int) : Nat → Option Int := fun p => cI (inR (Int.toNat (wx T)) (Int.toNat (wy T)) (Int.toNat (ww T)) (Int.toNat (wh T)) p) (some v) (cv p)
noncomputable def pickT (n : Nat) (R : GR) (T : WP) : Int := pickF n R (wn T) (ww T) (wh T) (wk T)
noncomputable def drawF (n : Nat) (R : GR) : Nat → Nat → (Nat → WP) → Nat → (Nat → Int) → Int → (Nat → Option Int) → DO
  | 0, _, _, c, st, z, cv => (0, 0, c, st, z, cv)
  | fuel + 1, L, P, c, st, z, cv =>
    if L = 0 then (0, 0, c, st, z, cv)
    else if 20 ≤ wd (P (L - 1)) then (2, wk (P (L - 1)), c, st, z, cv)
    else if pickT n R (P (L - 1)) = -9 then (1, wk (P (L - 1)), c, st, z, cv)
    else if rk (R (Int.toNat (pickT n R (P (L - 1))))) = 0 then drawF n R fuel (L - 1) P (c + 1) (snoc st c (pickT n R (P (L - 1)))) (z + rc (R (Int.toNat (pickT n R (P (L - 1)))))) (paintC cv (P (L - 1)) (rl (R (Int.toNat (pickT n R (P (L - 1)))))))
    else drawF n R fuel (L - 1 + pcN (R (Int.toNat (pickT n R (P (L - 1))))) (ww (P (L - 1))) (wh (P (L - 1)))) (spreadP (L - 1) P (R (Int.toNat (pickT n R (P (L - 1))))) (P (L - 1))) (c + 1) (snoc st c (pickT n R (P (L - 1)))) (z + rc (R (Int.toNat (pickT n R (P (L - 1)))))) cv
/-- what holds as the drawing goes on -/
def dInv (W H : Int) (L : Nat) (P : Nat → WP) (c : Nat) (st : Nat → Int) (z : Int) (cv : Nat → Option Int) : Prop := (∀ k, k < L → okW W H (P k) ∧ 0 ≤ wd (P k) ∧ wd (P k) ≤ 20) ∧ (c : Int) + sumN L (fun k => ar (P k) * (20 - wd (P k))) ≤ 8000 ∧ sumN L (fun k => ar (P k)) ≤ 400 ∧ (∀ j, j < c → 0 ≤ st j ∧ st j ≤ 39) ∧ (0 ≤ z ∧ z ≤ 99 * (c : Int)) ∧ ∀ p : Nat, ((p % 20 : Nat) : Int) < W → ((p / 20 : Nat) : Int) < H → cv p ≠ none ∨ ∃ k, k < L ∧ inW (P k) ((p % 20 : Nat) : Int) ((p / 20 : Nat) : Int)
section DR
variable {n : Nat} {R : GR} {W H : Int} {L c : Nat} {P : Nat → WP} {st : Nat → Int} {z : Int} {cv : Nat → Option Int}
theorem sumN_ge_n {f : Nat → Int} (h : ∀ i, i < n → 1 ≤ f i) : (n : Int) ≤ sumN n f := by
  have := sumN_mono (n := n) (f := fun _ => 1) (g := f) h
  have e : ∀ m : Nat, sumN m (fun _ => 1) = m := by
    intro m
    induction m with
    | zero => rfl
    | succ m ih => show sumN m (fun _ => 1) + 1 = _; rw [ih]; omega
  rw [e] at this
  exact this
theorem dInv_L (h : dInv W H L P c st z cv) : L ≤ 400 := by
  have h1 := sumN_ge_n (n := L) (f := fun k => ar (P k)) fun i hi => ar_pos (h.1 i hi).1
  have h2 := h.2.2.1
  omega
theorem dInv_pot (h : dInv W H L P c st z cv) : 0 ≤ sumN L (fun k => ar (P k) * (20 - wd (P k))) := sumN_nn fun i hi => by
  obtain ⟨h1, h2, h3⟩ := h.1 i hi
  have := ar_pos h1
  exact Int.mul_nonneg (by omega) (by omega)
theorem dInv_c (h : dInv W H (L + 1) P c st z cv) (hd : wd (P L) < 20) : c < 8000 := by
  have h1 : (c : Int) + (sumN L (fun k => ar (P k) * (20 - wd (P k))) + ar (P L) * (20 - wd (P L))) ≤ 8000 := h.2.1
  have h2 : 0 ≤ sumN L (fun k => ar (P k) * (20 - wd (P k))) := sumN_nn fun i hi => by
    obtain ⟨h1, h2, h3⟩ := h.1 i (by omega)
    have := ar_pos h1
    exact Int.mul_nonneg (by omega) (by omega)
  have h3 := ar_pos (h.1 L (by omega)).1
  have h4 := Int.mul_le_mul h3 (show 1 ≤ 20 - wd (P L) by omega) (by decide) (by omega)
  omega
theorem pickT_is (hv : pickT n R (P L) ≠ -9) : ∃ r : Nat, pickT n R (P L) = r ∧ r < n ∧ rn (R r) = wn (P L) ∧ holdsF (R r) (ww (P L)) (wh (P L)) := pickF_is hv
theorem inR_inW {T : WP} (hT : okW W H T) {p : Nat} (h : inW T ((p % 20 : Nat) : Int) ((p / 20 : Nat) : Int)) : inR (Int.toNat (wx T)) (Int.toNat (wy T)) (Int.toNat (ww T)) (Int.toNat (wh T)) p := by
  obtain ⟨-, ⟨t1, t2, t3⟩, t4, t5, t6⟩ := hT
  obtain ⟨⟨a1, a2⟩, a3, a4⟩ := h
  exact ⟨⟨by omega, by omega⟩, by omega, by omega⟩
theorem dInv_fill (h : dInv W H (L + 1) P c st z cv) (hd : wd (P L) < 20) {r : Nat} (hr : r < 40) (ho : okR (R r)) (v : Int) : dInv W H L P (c + 1) (snoc st c (r : Nat)) (z + rc (R r)) (paintC cv (P L) v) := by
  obtain ⟨h1, h2, h3, h4, h5, h6⟩ := h
  have h2 : (c : Int) + (sumN L (fun k => ar (P k) * (20 - wd (P k))) + ar (P L) * (20 - wd (P L))) ≤ 8000 := h2
  have h3 : sumN L (fun k => ar (P k)) + ar (P L) ≤ 400 := h3
  have hT := (h1 L (by omega)).1
  have ha := ar_pos hT
  have hm := Int.mul_le_mul ha (show 1 ≤ 20 - wd (P L) by omega) (by decide) (by omega)
  have hc := ho.2.2.1
  refine ⟨fun k hk => h1 k (by omega), by omega, by omega, fun j hj => ?_, by omega, fun p hp1 hp2 => ?_⟩
  · by_cases e : j = c
    · subst e; rw [snoc_n]; omega
    · rw [snoc_l (by omega)]; exact h4 j (by omega)
  · by_cases hin : inR (Int.toNat (wx (P L))) (Int.toNat (wy (P L))) (Int.toNat (ww (P L))) (Int.toNat (wh (P L))) p
    · left; unfold paintC; rw [cI_t hin]; exact fun q => by cases q
    · have e : paintC cv (P L) v p = cv p := by unfold paintC; rw [cI_f hin]
      rw [e]
      rcases h6 p hp1 hp2 with q | ⟨k, hk, q⟩
      · exact Or.inl q
      · by_cases e : k = L
        · subst e; exact absurd (inR_inW hT q) hin
        · exact Or.inr ⟨k, by omega, q⟩
theorem dInv_spread (hW : W ≤ 20) (hH : H ≤ 20) (h : dInv W H (L + 1) P c st z cv) (hd : wd (P L) < 20) {r : Nat} (hr : r < 40) (ho : okR (R r)) (hh : holdsF (R r) (ww (P L)) (wh (P L))) (hk : rk (R r) ≠ 0) : dInv W H (L + pcN (R r) (ww (P L)) (wh (P L))) (spreadP L P (R r) (P L)) (c + 1) (snoc st c (r : Nat)) (z + rc (R r)) cv := by
  obtain ⟨h1, h2, h3, h4, h5, h6⟩ := h
  have h2 : (c : Int) + (sumN L (fun k => ar (P k) * (20 - wd (P k))) + ar (P L) * (20 - wd (P L))) ≤ 8000 := h2
  have h3 : sumN L (fun k => ar (P k)) + ar (P L) ≤ 400 := h3
  obtain ⟨hT, hd0, -⟩ := h1 L (by omega)
  have ha := ar_pos hT
  have hs := okW_sc hW hH hT
  have hc := ho.2.2.1
  have hA := pieceP_area ho hs hh hk
  have s1 := spreadP_sum (d := R r) (T := P L) (L := L) (P := P) ar
  have s2 := spreadP_sum (d := R r) (T := P L) (L := L) (P := P) (fun T => ar T * (20 - wd T))
  have s3 : sumN (pcN (R r) (ww (P L)) (wh (P L))) (fun i => ar (pieceP (R r) (P L) i) * (20 - wd (pieceP (R r) (P L) i))) = (20 - (wd (P L) + 1)) * ar (P L) := by
    rw [← hA, ← sumN_mulc]
    exact sumN_congr fun i _ => by rw [pieceP_d, Int.mul_comm]
  have s4 : ar (P L) * (20 - wd (P L)) = (20 - (wd (P L) + 1)) * ar (P L) + ar (P L) := by
    rw [show 20 - wd (P L) = (20 - (wd (P L) + 1)) + 1 by omega, Int.mul_add, Int.mul_comm]; omega
  refine ⟨fun k hk2 => ?_, ?_, ?_, fun j hj => ?_, by omega, fun p hp1 hp2 => ?_⟩
  · refine spreadP_all (p := fun T => okW W H T ∧ 0 ≤ wd T ∧ wd T ≤ 20) (fun k hk => h1 k (by omega)) (fun i hi => ⟨pieceP_ok ho hT hW hH hh hk hi, ?_⟩) hk2
    rw [pieceP_d]; omega
  · rw [s2, s3]; omega
  · rw [s1, hA]; omega
  · by_cases e : j = c
    · subst e; rw [snoc_n]; omega
    · rw [snoc_l (by omega)]; exact h4 j (by omega)
  · rcases h6 p hp1 hp2 with q | ⟨k, hk2, q⟩
    · exact Or.inl q
    · by_cases e : k = L
      · subst e
        obtain ⟨i, hi, q2⟩ := pieceP_cover ho hs hh hk q
        refine Or.inr ⟨k + (pcN (R r) (ww (P k)) (wh (P k)) - 1 - i), by omega, ?_⟩
        rw [spreadP_hi hi]; exact q2
      · refine Or.inr ⟨k, by omega, ?_⟩
        rw [spreadP_lo (by omega)]; exact q
theorem drawF_0 (fuel : Nat) : drawF n R (fuel + 1) 0 P c st z cv = (0, 0, c, st, z, cv) := rfl
theorem drawF_2 (fuel : Nat) (h : 20 ≤ wd (P L)) : drawF n R (fuel + 1) (L + 1) P c st z cv = (2, wk (P L), c, st, z, cv) := by
  show (if L + 1 = 0 then _ else _) = _
  rw [if_neg (by omega)]
  exact if_pos h
theorem drawF_1 (fuel : Nat) (h : ¬ 20 ≤ wd (P L)) (hp : pickT n R (P L) = -9) : drawF n R (fuel + 1) (L + 1) P c st z cv = (1, wk (P L), c, st, z, cv) := by
  show (if L + 1 = 0 then _ else _) = _
  rw [if_neg (by omega)]
  show (if 20 ≤ wd (P L) then _ else if pickT n R (P L) = -9 then _ else _) = _
  rw [if_neg h]
  exact if_pos hp
theorem drawF_f (fuel : Nat) (h : ¬ 20 ≤ wd (P L)) {r : Nat} (hp : pickT n R (P L) = r) (hk : rk (R r) = 0) : drawF n R (fuel + 1) (L + 1) P c st z cv = drawF n R fuel L P (c + 1) (snoc st c (r : Nat)) (z + rc (R r)) (paintC cv (P L) (rl (R r))) := by
  show (if L + 1 = 0 then _ else _) = _
  rw [if_neg (by omega)]
  show (if 20 ≤ wd (P L) then _ else if pickT n R (P L) = -9 then _ else if rk (R (Int.toNat (pickT n R (P L)))) = 0 then _ else _) = _
  rw [if_neg h, if_neg (by omega), hp, Int.toNat_natCast, if_pos hk]
  rw [Nat.add_sub_cancel, hp, Int.toNat_natCast]
theorem drawF_s (fuel : Nat) (h : ¬ 20 ≤ wd (P L)) {r : Nat} (hp : pickT n R (P L) = r) (hk : rk (R r) ≠ 0) : drawF n R (fuel + 1) (L + 1) P c st z cv = drawF n R fuel (L + pcN (R r) (ww (P L)) (wh (P L))) (spreadP L P (R r) (P L)) (c + 1) (snoc st c (r : Nat)) (z + rc (R r)) cv := by
  show (if L + 1 = 0 then _ else _) = _
  rw [if_neg (by omega)]
  show (if 20 ≤ wd (P L) then _ else if pickT n R (P L) = -9 then _ else if rk (R (Int.toNat (pickT n R (P L)))) = 0 then _ else _) = _
  rw [if_neg h, if_neg (by omega), hp, Int.toNat_natCast, if_neg hk]
  rw [Nat.add_sub_cancel, hp, Int.toNat_natCast]
/-- what the drawing ends with -/
def okD (W H : Int) (o : DO) : Prop := (o.1 = 0 ∨ o.1 = 1 ∨ o.1 = 2) ∧ (o.1 = 0 → o.2.2.1 ≤ 8000 ∧ (∀ j, j < o.2.2.1 → 0 ≤ o.2.2.2.1 j ∧ o.2.2.2.1 j ≤ 39) ∧ (0 ≤ o.2.2.2.2.1 ∧ o.2.2.2.2.1 ≤ 99 * (o.2.2.1 : Int)) ∧ ∀ p : Nat, ((p % 20 : Nat) : Int) < W → ((p / 20 : Nat) : Int) < H → o.2.2.2.2.2 p ≠ none)
theorem drawF_ok (hW : W ≤ 20) (hH : H ≤ 20) (hG : okG n R) : ∀ (fuel L c : Nat) (P : Nat → WP) (st : Nat → Int) (z : Int) (cv : Nat → Option Int), fuel + c = 8001 → dInv W H L P c st z cv → okD W H (drawF n R fuel L P c st z cv) := by
  intro fuel
  induction fuel with
  | zero =>
    intro L c P st z cv hf hI
    have := dInv_pot hI
    have := hI.2.1
    omega
  | succ fuel ih =>
    intro L c P st z cv hf hI
    have h40 := hG.1
    cases L with
    | zero =>
      rw [drawF_0]
      refine ⟨Or.inl rfl, fun _ => ⟨?_, hI.2.2.2.1, hI.2.2.2.2.1, fun p hp1 hp2 => ?_⟩⟩
      · have := hI.2.1
        have := dInv_pot hI
        show c ≤ 8000
        omega
      · rcases hI.2.2.2.2.2 p hp1 hp2 with q | ⟨k, hk, -⟩
        · exact q
        · exact absurd hk (Nat.not_lt_zero k)
    | succ L =>
      by_cases hd : 20 ≤ wd (P L)
      · rw [drawF_2 fuel hd]
        exact ⟨Or.inr (Or.inr rfl), fun q => absurd (show (2 : Int) = 0 from q) (by decide)⟩
      · by_cases hp : pickT n R (P L) = -9
        · rw [drawF_1 fuel hd hp]
          exact ⟨Or.inr (Or.inl rfl), fun q => absurd (show (1 : Int) = 0 from q) (by decide)⟩
        · obtain ⟨r, er, hr, -, hh⟩ := pickT_is hp
          by_cases hk : rk (R r) = 0
          · rw [drawF_f fuel hd er hk]
            exact ih _ _ _ _ _ _ (by omega) (dInv_fill hI (by omega) (by omega) (hG.2 r hr) _)
          · rw [drawF_s fuel hd er hk]
            exact ih _ _ _ _ _ _ (by omega) (dInv_spread hW hH hI (by omega) (by omega) (hG.2 r hr) hh hk)
end DR
