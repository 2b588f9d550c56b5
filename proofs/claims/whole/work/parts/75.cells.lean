/-! the cells of a chart: spans by number -/
def spN (a x l : Nat) : Nat := if a = 213 then l - 1 else (l - 1) * (20 - l) / 2 + x
def spL (a s : Nat) : Nat := if a = 213 then s + 1 else if s < 9 then 1 else if s < 17 then 2 else if s < 24 then 3 else if s < 30 then 4 else if s < 35 then 5 else if s < 39 then 6 else if s < 42 then 7 else if s < 44 then 8 else 9
def spX (a s : Nat) : Nat := if a = 213 then 0 else s - (spL a s - 1) * (20 - spL a s) / 2
def vsp (a x l : Nat) : Prop := 1 ≤ l ∧ (a = 213 → l ≤ 20) ∧ (a = 231 → x + l ≤ 9)
theorem sp_d1 : ∀ s : Fin 45, 1 ≤ spL 231 s.val ∧ spX 231 s.val + spL 231 s.val ≤ 9 ∧ spN 231 (spX 231 s.val) (spL 231 s.val) = s.val := by decide +kernel
theorem sp_d2 : ∀ l : Fin 10, ∀ x : Fin 10, 1 ≤ l.val → x.val + l.val ≤ 9 → spN 231 x.val l.val < 45 ∧ spL 231 (spN 231 x.val l.val) = l.val ∧ spX 231 (spN 231 x.val l.val) = x.val := by decide +kernel
theorem sp_d3 : ∀ l l' x x' : Fin 10, 1 ≤ l.val → x.val + l.val ≤ 9 → 1 ≤ l'.val → x'.val + l'.val ≤ 9 → l'.val < l.val → spN 231 x'.val l'.val < spN 231 x.val l.val := by decide +kernel
section SPS
variable {a s x l x' l' : Nat}
theorem sp_ok (hA : isChart a) (hs : s < nsp a) : vsp a (spX a s) (spL a s) ∧ spN a (spX a s) (spL a s) = s ∧ spX a s ≤ 8 ∧ spL a s ≤ 20 ∧ (a = 213 → spX a s = 0) := by
  rcases hA with rfl | rfl
  · have e : spL 213 s = s + 1 := rfl
    have e2 : spX 213 s = 0 := rfl
    have hs : s < 20 := hs
    rw [e, e2]
    exact ⟨⟨by omega, fun _ => by omega, fun q => absurd q (by decide)⟩, rfl, by omega, by omega, fun _ => rfl⟩
  · obtain ⟨h1, h2, h3⟩ : 1 ≤ spL 231 s ∧ spX 231 s + spL 231 s ≤ 9 ∧ spN 231 (spX 231 s) (spL 231 s) = s := sp_d1 ⟨s, hs⟩
    exact ⟨⟨h1, fun q => absurd q (by decide), fun _ => h2⟩, h3, by omega, by omega, fun q => absurd q (by decide)⟩
theorem spN_b (hA : isChart a) (h : vsp a x l) : spN a x l < nsp a ∧ spL a (spN a x l) = l ∧ (a = 231 → spX a (spN a x l) = x) := by
  obtain ⟨h1, h2, h3⟩ := h
  rcases hA with rfl | rfl
  · have := h2 rfl
    have e : spN 213 x l = l - 1 := rfl
    rw [e]
    have e3 : spL 213 (l - 1) = l - 1 + 1 := rfl
    have e4 : nsp 213 = 20 := rfl
    rw [e3, e4]
    exact ⟨by omega, by omega, fun q => absurd q (by decide)⟩
  · have := h3 rfl
    obtain ⟨g1, g2, g3⟩ := sp_d2 ⟨l, by omega⟩ ⟨x, by omega⟩ h1 this
    exact ⟨g1, g2, fun _ => g3⟩
theorem spN_lt (hA : isChart a) (h : vsp a x l) (h' : vsp a x' l') (hl : l' < l) : spN a x' l' < spN a x l := by
  obtain ⟨h1, h2, h3⟩ := h
  obtain ⟨g1, g2, g3⟩ := h'
  rcases hA with rfl | rfl
  · have e : spN 213 x l = l - 1 := rfl
    have e2 : spN 213 x' l' = l' - 1 := rfl
    omega
  · have := h3 rfl
    have := g3 rfl
    exact sp_d3 ⟨l, by omega⟩ ⟨l', by omega⟩ ⟨x, by omega⟩ ⟨x', by omega⟩ h1 (h3 rfl) g1 (g3 rfl) hl
theorem spF_N (hA : isChart a) (h : vsp a x l) : spF (if a = 213 then 0 else 1) (x : Int) (l : Int) = (spN a x l : Nat) := by
  obtain ⟨h1, h2, h3⟩ := h
  rcases hA with rfl | rfl
  · have e : spN 213 x l = l - 1 := rfl
    rw [e]
    show (if (0 : Int) = 0 then (l : Int) - 1 else _) = _
    rw [if_pos rfl]; omega
  · have := h3 rfl
    have e : spN 231 x l = (l - 1) * (20 - l) / 2 + x := rfl
    rw [e]
    show (if (1 : Int) = 0 then _ else ((l : Int) - 1) * (20 - (l : Int)) / 2 + (x : Int)) = _
    rw [if_neg (by decide)]
    rcases show l = 1 ∨ l = 2 ∨ l = 3 ∨ l = 4 ∨ l = 5 ∨ l = 6 ∨ l = 7 ∨ l = 8 ∨ l = 9 by omega with rfl | rfl | rfl | rfl | rfl | rfl | rfl | rfl | rfl <;> omega
end SPS
def clN (a x y w h : Nat) : Nat := spN a x w * nsp a + spN a y h
abbrev cX (a c : Nat) : Nat := spX a (c / nsp a)
abbrev cY (a c : Nat) : Nat := spX a (c % nsp a)
abbrev cW (a c : Nat) : Nat := spL a (c / nsp a)
abbrev cH (a c : Nat) : Nat := spL a (c % nsp a)
def evc (a : Nat) (B : BD) : EV := if a = 213 then eFr else eBd B
theorem nsp_b {a : Nat} (hA : isChart a) : 20 ≤ nsp a ∧ nsp a ≤ 45 ∧ nsp a * nsp a ≤ 2025 := by
  rcases hA with rfl | rfl <;> decide
section CE
variable {a c x y w h : Nat} {B : BD}
theorem cl_b (hA : isChart a) (hc : c < nsp a * nsp a) : c / nsp a < nsp a ∧ c % nsp a < nsp a ∧ c / nsp a * nsp a + c % nsp a = c := by
  have hn := nsp_b hA
  exact ⟨(Nat.div_lt_iff_lt_mul (by omega)).2 hc, Nat.mod_lt _ (by omega), Nat.div_add_mod' c (nsp a)⟩
theorem cell_ok (hA : isChart a) (hc : c < nsp a * nsp a) : okCell (evc a B) (cX a c) (cY a c) (cW a c) (cH a c) := by
  obtain ⟨h1, h2, -⟩ := cl_b hA hc
  obtain ⟨⟨a1, a2, a3⟩, -, a5, a6, a7⟩ : vsp a (cX a c) (cW a c) ∧ _ ∧ cX a c ≤ 8 ∧ cW a c ≤ 20 ∧ (a = 213 → cX a c = 0) := sp_ok hA h1
  obtain ⟨⟨b1, b2, b3⟩, -, b5, b6, b7⟩ : vsp a (cY a c) (cH a c) ∧ _ ∧ cY a c ≤ 8 ∧ cH a c ≤ 20 ∧ (a = 213 → cY a c = 0) := sp_ok hA h2
  rcases hA with rfl | rfl
  · have := a7 rfl
    have := b7 rfl
    exact ⟨a1, b1, by omega, by omega, fun z => absurd (show false = true from z) (by decide)⟩
  · have := a3 rfl
    have := b3 rfl
    exact ⟨a1, b1, by omega, by omega, fun _ => ⟨by omega, by omega⟩⟩
theorem ok_vsp (hA : isChart a) (hc : okCell (evc a B) x y w h) : vsp a x w ∧ vsp a y h := by
  obtain ⟨h1, h2, h3, h4, h5⟩ := hc
  rcases hA with rfl | rfl
  · exact ⟨⟨h1, fun _ => by omega, fun q => absurd q (by decide)⟩, h2, fun _ => by omega, fun q => absurd q (by decide)⟩
  · have := h5 rfl
    exact ⟨⟨h1, fun q => absurd q (by decide), fun _ => by omega⟩, h2, fun q => absurd q (by decide), fun _ => by omega⟩
theorem clN_b (hA : isChart a) (hc : okCell (evc a B) x y w h) : clN a x y w h < nsp a * nsp a ∧ clN a x y w h / nsp a = spN a x w ∧ clN a x y w h % nsp a = spN a y h := by
  obtain ⟨v1, v2⟩ := ok_vsp hA hc
  have h1 := (spN_b hA v1).1
  have h2 := (spN_b hA v2).1
  have hn := nsp_b hA
  unfold clN
  refine ⟨?_, ?_, ?_⟩
  · have : spN a x w * nsp a + nsp a ≤ nsp a * nsp a := by
      have := Nat.mul_le_mul_right (nsp a) (show spN a x w + 1 ≤ nsp a by omega)
      rw [Nat.succ_mul] at this
      exact this
    omega
  · rw [Nat.mul_comm, Nat.mul_add_div (by omega), Nat.div_eq_of_lt h2, Nat.add_zero]
  · rw [Nat.mul_comm, Nat.mul_add_mod, Nat.mod_eq_of_lt h2]
theorem clN_self (hA : isChart a) (hc : c < nsp a * nsp a) : clN a (cX a c) (cY a c) (cW a c) (cH a c) = c := by
  obtain ⟨h1, h2, h3⟩ := cl_b hA hc
  unfold clN
  rw [(sp_ok hA h1).2.1, (sp_ok hA h2).2.1, h3]
/-- the cell by its number is the cell -/
theorem clN_at (hA : isChart a) (hc : okCell (evc a B) x y w h) : cW a (clN a x y w h) = w ∧ cH a (clN a x y w h) = h ∧ (a = 231 → cX a (clN a x y w h) = x ∧ cY a (clN a x y w h) = y) := by
  obtain ⟨v1, v2⟩ := ok_vsp hA hc
  obtain ⟨-, e1, e2⟩ := clN_b hA hc
  obtain ⟨-, f1, f2⟩ := spN_b hA v1
  obtain ⟨-, g1, g2⟩ := spN_b hA v2
  unfold cW cH cX cY
  rw [e1, e2]
  exact ⟨f1, g1, fun q => ⟨f2 q, g2 q⟩⟩
end CE
def chA (μ : Nat → Nat → Int) (a : Nat) : Prop := μ a 3 = (if a = 213 then 0 else 1) ∧ μ a 4 = (nsp a : Nat) ∧ ∀ s, s < nsp a → μ (a + 11) s = (spX a s : Nat) ∧ μ (a + 12) s = (spL a s : Nat)
theorem tdiv_n (c n : Nat) (h : c < 2147483648) : w32 (Int.tdiv (c : Int) (n : Int)) = ((c / n : Nat) : Int) := by
  have e : Int.tdiv (c : Int) (n : Int) = ((c / n : Nat) : Int) := rfl
  have hq := Nat.div_le_self c n
  rw [e]
  generalize c / n = q at hq ⊢
  rw [w32_id (by omega) (by omega)]
theorem tmod_n (c n : Nat) (h : c < 2147483648) : w32 (Int.tmod (c : Int) (n : Int)) = ((c % n : Nat) : Int) := by
  have e : Int.tmod (c : Int) (n : Int) = ((c % n : Nat) : Int) := rfl
  have hq := Nat.mod_le c n
  rw [e]
  generalize c % n = q at hq ⊢
  rw [w32_id (by omega) (by omega)]
section CP
variable {sh : List (Nat × Nat)} {ν : Nat → Nat → Option Nat} {μ : Nat → Nat → Int} {f s : Nat} {Q : xQ} {a c i : Nat} {d : RD} {B : BD}
/-- the cell of piece i of a rule on cell c -/
def pcC (a c : Nat) (d : RD) (i : Nat) : Nat := clN a (Int.toNat (pcX d (cX a c) (cW a c) (cH a c) i)) (Int.toNat (pcY d (cY a c) (cW a c) (cH a c) i)) (Int.toNat (pcW d (cW a c) (cH a c) i)) (Int.toNat (pcH d (cW a c) (cH a c) i))
theorem pcC_ok (hA : isChart a) (hc : c < nsp a * nsp a) (ho : okR d) (hh : holdsF d (cW a c) (cH a c)) (hi : i < pcN d (cW a c) (cH a c)) : okCell (evc a B) (Int.toNat (pcX d (cX a c) (cW a c) (cH a c) i)) (Int.toNat (pcY d (cY a c) (cW a c) (cH a c) i)) (Int.toNat (pcW d (cW a c) (cH a c) i)) (Int.toNat (pcH d (cW a c) (cH a c) i)) := (pc_cell ho (cell_ok (B := B) hA hc) hh hi).2.2.2.2.2
theorem pcC_b (hA : isChart a) (hc : c < nsp a * nsp a) (ho : okR d) (hh : holdsF d (cW a c) (cH a c)) (hi : i < pcN d (cW a c) (cH a c)) : pcC a c d i < nsp a * nsp a := (clN_b hA (pcC_ok (B := (1, 1, fun _ => 0)) hA hc ho hh hi)).1
theorem pcC_one (hA : isChart a) (hc : c < nsp a * nsp a) (ho : okR d) (hh : holdsF d (cW a c) (cH a c)) (hN : pcN d (cW a c) (cH a c) = 1) : pcC a c d 0 = c := by
  obtain ⟨h1, h2, h3, h4, -⟩ := pc_one (e := evc a (1, 1, fun _ => 0)) ho (cell_ok hA hc) hh hN
  unfold pcC
  rw [h1, h2, h3, h4, Int.toNat_natCast, Int.toNat_natCast, Int.toNat_natCast, Int.toNat_natCast]
  exact clN_self hA hc
theorem pcC_lt (hA : isChart a) (hc : c < nsp a * nsp a) (ho : okR d) (hh : holdsF d (cW a c) (cH a c)) (hN : pcN d (cW a c) (cH a c) ≠ 1) (hi : i < pcN d (cW a c) (cH a c)) : pcC a c d i < c := by
  have hok := pcC_ok (B := (1, 1, fun _ => 0)) hA hc ho hh hi
  have hce := cell_ok (B := (1, 1, fun _ => 0)) hA hc
  obtain ⟨v1, v2⟩ := ok_vsp hA hok
  obtain ⟨u1, u2⟩ := ok_vsp hA hce
  obtain ⟨hk, p1, p2, p3, p4, -⟩ := pc_cell ho hce hh hi
  have hl := pc_less ho hce hh hN hi
  have hn := nsp_b hA
  have hb := spN_b hA v1
  have hb2 := spN_b hA v2
  have hself := clN_self hA hc
  rw [← hself]
  rw [hself]
  show clN a _ _ _ _ < _
  have e0 : c = spN a (cX a c) (cW a c) * nsp a + spN a (cY a c) (cH a c) := hself.symm
  have hub := spN_b hA u2
  by_cases q : rk d = 2 ∨ rk d = 4
  · obtain ⟨a1, a2, a3, a4⟩ := pc_t (d := d) (x := (cX a c : Nat)) (y := (cY a c : Nat)) (w := (cW a c : Nat)) (h := (cH a c : Nat)) q i
    have hlt := spN_lt hA u2 v2 (by rw [a3] at hl; omega)
    have e1 : clN a (Int.toNat (pcX d (cX a c) (cW a c) (cH a c) i)) (Int.toNat (pcY d (cY a c) (cW a c) (cH a c) i)) (Int.toNat (pcW d (cW a c) (cH a c) i)) (Int.toNat (pcH d (cW a c) (cH a c) i)) = spN a (cX a c) (cW a c) * nsp a + spN a (Int.toNat (pcY d (cY a c) (cW a c) (cH a c) i)) (Int.toNat (pcH d (cW a c) (cH a c) i)) := by
      unfold clN
      rw [a1, a3, Int.toNat_natCast, Int.toNat_natCast]
    omega
  · obtain ⟨a1, a2, a3, a4⟩ := pc_f (d := d) (x := (cX a c : Nat)) (y := (cY a c : Nat)) (w := (cW a c : Nat)) (h := (cH a c : Nat)) q i
    have hlt := spN_lt hA u1 v1 (by rw [a4] at hl; omega)
    have e1 : clN a (Int.toNat (pcX d (cX a c) (cW a c) (cH a c) i)) (Int.toNat (pcY d (cY a c) (cW a c) (cH a c) i)) (Int.toNat (pcW d (cW a c) (cH a c) i)) (Int.toNat (pcH d (cW a c) (cH a c) i)) = spN a (Int.toNat (pcX d (cX a c) (cW a c) (cH a c) i)) (Int.toNat (pcW d (cW a c) (cH a c) i)) * nsp a + spN a (cY a c) (cH a c) := by
      unfold clN
      rw [a2, a4, Int.toNat_natCast, Int.toNat_natCast]
    rw [e1]
    have hm := Nat.mul_le_mul_right (nsp a) (show spN a (Int.toNat (pcX d (cX a c) (cW a c) (cH a c) i)) (Int.toNat (pcW d (cW a c) (cH a c) i)) + 1 ≤ spN a (cX a c) (cW a c) by omega)
    rw [Nat.succ_mul] at hm
    omega
theorem pcC_le (hA : isChart a) (hc : c < nsp a * nsp a) (ho : okR d) (hh : holdsF d (cW a c) (cH a c)) (hi : i < pcN d (cW a c) (cH a c)) : pcC a c d i ≤ c := by
  by_cases hN : pcN d (cW a c) (cH a c) = 1
  · rw [show i = 0 by omega, pcC_one hA hc ho hh hN]; exact Nat.le_refl _
  · exact Nat.le_of_lt (pcC_lt hA hc ho hh hN hi)
theorem c_X1_cellOfPart (hW : WF sh ν f s) (hA : isChart a) (HA : chA μ a) (hc : c < nsp a * nsp a) (ho : okR d) (hh : holdsF d (cW a c) (cH a c)) (hl : laidX μ d (cW a c) (cH a c)) (hi : i < pcN d (cW a c) (cH a c))
    (k : Q (some (vI (pcC a c d i : Nat))) sh ν μ) : X mX1_cellOfPart 0 [(0, vR a), (1, vI (c : Nat)), (2, vI (bI (rk d = 2 ∨ rk d = 4))), (3, vI (i : Nat))] [] sh ν μ 0 0 Q := by
  obtain ⟨A1, A2, A3⟩ := HA
  have hn := nsp_b hA
  obtain ⟨c1, c2, c3⟩ := cl_b hA hc
  have hce := cell_ok (B := (1, 1, fun _ => 0)) hA hc
  have hok := pcC_ok (B := (1, 1, fun _ => 0)) hA hc ho hh hi
  have hlt := pcC_b hA hc ho hh hi
  obtain ⟨v1, v2⟩ := ok_vsp hA hok
  have s1 := sp_ok hA c1
  have s2 := sp_ok hA c2
  have hs : isSc (cW a c : Nat) (cH a c : Nat) := by
    obtain ⟨h1, h2, h3, h4, -⟩ := hce
    exact ⟨by omega, by omega⟩
  have hk := pcN_k hi
  obtain ⟨b1, b2, b3⟩ := pcB_b ho hs hh hk hi
  have h20 := pcN_20 ho hs
  obtain ⟨l1, l2, l3⟩ := hl.2 i hi
  have bL : rLn d (cW a c) (cH a c) = if rk d = 2 ∨ rk d = 4 then ((cH a c : Nat) : Int) else ((cW a c : Nat) : Int) := rfl
  have hw := (spN_b hA v1).1
  have hh2 := (spN_b hA v2).1
  obtain ⟨p1, p2, p3, p4, p5⟩ := hce
  have eX : cX a c = spX a (c / nsp a) := rfl
  have eY : cY a c = spX a (c % nsp a) := rfl
  refine g_X1_cellOfPart_0 hW hA ?_
  rw [A1, A2, tdiv_n c (nsp a) (by omega), tmod_n c (nsp a) (by omega), Int.toNat_natCast, Int.toNat_natCast, Int.toNat_natCast, (A3 _ c1).1, (A3 _ c2).1, l2, l3]
  refine ⟨by omega, by omega, fun q => ?_, fun q => ?_⟩
  · have hf := bI_eq.1 q
    obtain ⟨a1, a2, a3, a4⟩ := pc_f (d := d) (x := (cX a c : Nat)) (y := (cY a c : Nat)) (w := (cW a c : Nat)) (h := (cH a c : Nat)) hf i
    rw [bL, if_neg hf] at b3
    have e2 : spF (if a = 213 then 0 else 1) (((spX a (c / nsp a) : Nat) : Int) + pcB d (cW a c) (cH a c) i) (pcL d (cW a c) (cH a c) i) = (spN a (Int.toNat (pcX d (cX a c) (cW a c) (cH a c) i)) (Int.toNat (pcW d (cW a c) (cH a c) i)) : Nat) := by
      have := spF_N hA v1
      rw [a1, a3] at this ⊢
      rw [Int.toNat_of_nonneg (by omega), Int.toNat_of_nonneg (by omega)] at this
      exact this
    have e3 : pcC a c d i = spN a (Int.toNat (pcX d (cX a c) (cW a c) (cH a c) i)) (Int.toNat (pcW d (cW a c) (cH a c) i)) * nsp a + c % nsp a := by
      unfold pcC clN
      rw [a2, a4, Int.toNat_natCast, Int.toNat_natCast, s2.2.1]
    rw [w32_id (x := ((spX a (c / nsp a) : Nat) : Int) + pcB d (cW a c) (cH a c) i) (by omega) (by omega), e2]
    refine ⟨by omega, by omega, by omega, by omega, by omega, ?_⟩
    generalize spN a (Int.toNat (pcX d (cX a c) (cW a c) (cH a c) i)) (Int.toNat (pcW d (cW a c) (cH a c) i)) = sx at *
    have e4 : ((sx : Nat) : Int) * ((nsp a : Nat) : Int) = ((sx * nsp a : Nat) : Int) := (Int.natCast_mul _ _).symm
    rw [e4, w32_id (x := ((sx * nsp a : Nat) : Int)) (by omega) (by omega), w32_id (by omega) (by omega)]
    rw [e3, Int.natCast_add] at k
    exact k
  · have hf := bI_ne.1 q
    obtain ⟨a1, a2, a3, a4⟩ := pc_t (d := d) (x := (cX a c : Nat)) (y := (cY a c : Nat)) (w := (cW a c : Nat)) (h := (cH a c : Nat)) hf i
    rw [bL, if_pos hf] at b3
    have e2 : spF (if a = 213 then 0 else 1) (((spX a (c % nsp a) : Nat) : Int) + pcB d (cW a c) (cH a c) i) (pcL d (cW a c) (cH a c) i) = (spN a (Int.toNat (pcY d (cY a c) (cW a c) (cH a c) i)) (Int.toNat (pcH d (cW a c) (cH a c) i)) : Nat) := by
      have := spF_N hA v2
      rw [a2, a4] at this ⊢
      rw [Int.toNat_of_nonneg (by omega), Int.toNat_of_nonneg (by omega)] at this
      exact this
    have e3 : pcC a c d i = c / nsp a * nsp a + spN a (Int.toNat (pcY d (cY a c) (cW a c) (cH a c) i)) (Int.toNat (pcH d (cW a c) (cH a c) i)) := by
      unfold pcC clN
      rw [a1, a3, Int.toNat_natCast, Int.toNat_natCast, s1.2.1]
    rw [w32_id (x := ((spX a (c % nsp a) : Nat) : Int) + pcB d (cW a c) (cH a c) i) (by omega) (by omega), e2]
    refine ⟨by omega, by omega, by omega, by omega, by omega, ?_⟩
    generalize spN a (Int.toNat (pcY d (cY a c) (cW a c) (cH a c) i)) (Int.toNat (pcH d (cW a c) (cH a c) i)) = sy at *
    have e4 : ((c / nsp a : Nat) : Int) * ((nsp a : Nat) : Int) = ((c / nsp a * nsp a : Nat) : Int) := (Int.natCast_mul _ _).symm
    rw [e4, w32_id (x := ((c / nsp a * nsp a : Nat) : Int)) (by omega) (by omega), w32_id (by omega) (by omega)]
    rw [e3, Int.natCast_add] at k
    exact k
end CP
