/-! one piece is the cell itself; of several each is a lesser cell -/
section TC
variable {e : EV} {d : RD} {x y w h : Nat}
theorem pc_one (ho : okR d) (hc : okCell e x y w h) (hh : holdsF d w h) (hN : pcN d w h = 1) : pcX d x w h 0 = x ∧ pcY d y w h 0 = y ∧ pcW d w h 0 = w ∧ pcH d w h 0 = h ∧ pcI e d x y w h 0 = plN e x y w h (Int.toNat (pcNm d 0)) := by
  have hk : rk d ≠ 0 := fun q => by have e : pcN d w h = 0 := if_pos q; omega
  obtain ⟨h1, h2, h3, h4, h5⟩ := hc
  have hs : isSc (w : Int) (h : Int) := ⟨by omega, by omega⟩
  obtain ⟨t1, -⟩ := pc_total ho hs hh hk
  rw [hN] at t1
  have t2 : pcL d w h 0 = rLn d w h := by
    have : sumN 1 (pcL d w h) = 0 + pcL d w h 0 := rfl
    omega
  have t3 : pcB d w h 0 = 0 := rfl
  have key : pcX d x w h 0 = x ∧ pcY d y w h 0 = y ∧ pcW d w h 0 = w ∧ pcH d w h 0 = h := by
    unfold pcX pcY pcW pcH
    rw [t2, t3]
    unfold rLn
    by_cases q : rk d = 2 ∨ rk d = 4
    · rw [if_pos q, if_pos q, if_pos q, if_pos q, if_pos q]
      exact ⟨rfl, by omega, rfl, rfl⟩
    · rw [if_neg q, if_neg q, if_neg q, if_neg q, if_neg q]
      exact ⟨by omega, rfl, rfl, rfl⟩
  refine ⟨key.1, key.2.1, key.2.2.1, key.2.2.2, ?_⟩
  unfold pcI
  rw [key.1, key.2.1, key.2.2.1, key.2.2.2, Int.toNat_natCast, Int.toNat_natCast, Int.toNat_natCast, Int.toNat_natCast]
theorem pc_less (ho : okR d) (hc : okCell e x y w h) (hh : holdsF d w h) (hN : pcN d w h ≠ 1) {i : Nat} (hi : i < pcN d w h) : pcW d w h i + pcH d w h i < (w : Int) + (h : Int) := by
  have hk : rk d ≠ 0 := fun q => by have e : pcN d w h = 0 := if_pos q; omega
  obtain ⟨h1, h2, h3, h4, h5⟩ := hc
  have hs : isSc (w : Int) (h : Int) := ⟨by omega, by omega⟩
  obtain ⟨t1, t2⟩ := pc_total ho hs hh hk
  have hlt : pcL d w h i < rLn d w h := by
    rw [← t1]
    obtain ⟨b1, b2, b3⟩ := pcB_b ho hs hh hk hi
    by_cases q : i = 0
    · -- a later piece has a length
      have h3 : sumN 2 (pcL d w h) ≤ sumN (pcN d w h) (pcL d w h) := sumN_le_n (by omega) fun j hj => by have := t2 j hj; omega
      have h4 : sumN 2 (pcL d w h) = 0 + pcL d w h 0 + pcL d w h 1 := rfl
      have h5 := t2 1 (by omega)
      rw [q]; omega
    · have h6 : sumN 1 (pcL d w h) ≤ sumN i (pcL d w h) := sumN_le_n (by omega) fun j hj => by have := t2 j (by omega); omega
      have h7 : sumN 1 (pcL d w h) = 0 + pcL d w h 0 := rfl
      have h8 := t2 0 (by omega)
      have h9 : pcB d w h i = sumN i (pcL d w h) := rfl
      omega
  unfold rLn at hlt
  unfold pcW pcH
  by_cases q : rk d = 2 ∨ rk d = 4
  · rw [if_pos q] at hlt
    rw [if_pos q, if_pos q]; omega
  · rw [if_neg q] at hlt
    rw [if_neg q, if_neg q]; omega
theorem pc_area (ho : okR d) (hc : okCell e x y w h) (hh : holdsF d w h) (hk : rk d ≠ 0) : sumN (pcN d w h) (fun i => pcW d w h i * pcH d w h i) = (w : Int) * h := by
  obtain ⟨h1, h2, h3, h4, h5⟩ := hc
  have hs : isSc (w : Int) (h : Int) := ⟨by omega, by omega⟩
  obtain ⟨t1, t2⟩ := pc_total ho hs hh hk
  unfold rLn at t1
  by_cases q : rk d = 2 ∨ rk d = 4
  · rw [if_pos q] at t1
    rw [sumN_congr (g := fun i => (w : Int) * pcL d w h i) fun i _ => by unfold pcW pcH; rw [if_pos q, if_pos q], sumN_mulc]
    show (w : Int) * sumN _ (pcL d w h) = _
    rw [t1]
  · rw [if_neg q] at t1
    rw [sumN_congr (g := fun i => (h : Int) * pcL d w h i) fun i _ => by unfold pcW pcH; rw [if_neg q, if_neg q, Int.mul_comm], sumN_mulc]
    show (h : Int) * sumN _ (pcL d w h) = _
    rw [t1, Int.mul_comm]
end TC
