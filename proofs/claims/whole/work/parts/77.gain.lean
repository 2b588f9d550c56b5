/-! the one letter of a part of the board; what a rule with parts brings -/
def rgt (m : Nat → Nat → Int) (a : Nat) (B : BD) (R : GR) (nR c n : Nat) : Prop := m (a + 15) (c * 8 + n) = VW (evc a B) R nR (cX a c) (cY a c) (cW a c) (cH a c) n ∧ m (a + 16) (c * 8 + n) = VB (evc a B) R nR (cX a c) (cY a c) (cW a c) (cH a c) n ∧ m (a + 17) (c * 8 + n) = VP (evc a B) R nR (cX a c) (cY a c) (cW a c) (cH a c) n
theorem slot_lt {p N k : Nat} (h : p < N) (hk : k < 8) : p * 8 + k < N * 8 := by omega
theorem kk8 {v : Int} {k : Nat} (h : v = k) (h2 : 0 ≤ v ∧ v ≤ 7) : k < 8 := by omega
theorem evc_f {B : BD} : (evc 213 B).1 = false := rfl
section GP
variable {sh : List (Nat × Nat)} {ν : Nat → Nat → Option Nat} {μ : Nat → Nat → Int} {f s : Nat} {Q : xQ} {a c i r : Nat} {d : RD} {B : BD} {nR : Nat} {R : GR} {F : Nat → Prop}
theorem cl_val (hA : isChart a) (hG : okG nR R) {x y w h n : Nat} (hc : okCell (evc a B) x y w h) : VW (evc a B) R nR (cX a (clN a x y w h)) (cY a (clN a x y w h)) (cW a (clN a x y w h)) (cH a (clN a x y w h)) n = VW (evc a B) R nR x y w h n ∧ VB (evc a B) R nR (cX a (clN a x y w h)) (cY a (clN a x y w h)) (cW a (clN a x y w h)) (cH a (clN a x y w h)) n = VB (evc a B) R nR x y w h n ∧ VP (evc a B) R nR (cX a (clN a x y w h)) (cY a (clN a x y w h)) (cW a (clN a x y w h)) (cH a (clN a x y w h)) n = VP (evc a B) R nR x y w h n := by
  obtain ⟨e1, e2, e3⟩ := clN_at hA hc
  rw [e1, e2]
  rcases hA with rfl | rfl
  · exact ⟨by rw [VW_xy evc_f, VW_xy (x := x) evc_f], by rw [VB_xy hG evc_f, VB_xy (x := x) hG evc_f], by rw [VP_xy hG evc_f, VP_xy (x := x) hG evc_f]⟩
  · obtain ⟨e3, e4⟩ := e3 rfl
    rw [e3, e4]
    exact ⟨rfl, rfl, rfl⟩
theorem rgt_piece {m : Nat → Nat → Int} (hA : isChart a) (hG : okG nR R) (hc : c < nsp a * nsp a) (ho : okR d) (hh : holdsF d (cW a c) (cH a c)) (hi : i < pcN d (cW a c) (cH a c)) (H : rgt m a B R nR (pcC a c d i) (Int.toNat (pcNm d i))) : m (a + 15) (pcC a c d i * 8 + Int.toNat (pcNm d i)) = pcV (VW (evc a B) R nR) d (cX a c) (cY a c) (cW a c) (cH a c) i ∧ m (a + 16) (pcC a c d i * 8 + Int.toNat (pcNm d i)) = pcV (VB (evc a B) R nR) d (cX a c) (cY a c) (cW a c) (cH a c) i := by
  obtain ⟨h1, h2, -⟩ := H
  have hok := pcC_ok (B := B) hA hc ho hh hi
  obtain ⟨e1, e2, -⟩ := cl_val (R := R) (nR := nR) (n := Int.toNat (pcNm d i)) hA hG hok
  exact ⟨h1.trans e1, h2.trans e2⟩
theorem sole_ar {x y w h i j : Nat} (hx : x + w ≤ 9) (hy : y + h ≤ 9) (hi : i < w) (hj : j < h) : w32 (((9 * y + x : Nat) : Int) + w32 (9 * (j : Int))) = ((9 * (y + j) + x : Nat) : Int) ∧ w32 (((9 * (y + j) + x : Nat) : Int) + (i : Int)) = ((9 * (y + j) + (x + i) : Nat) : Int) ∧ 9 * (y + j) + (x + i) < 81 := by
  refine ⟨?_, ?_, by omega⟩
  · rw [w32_id (x := 9 * (j : Int)) (by omega) (by omega), w32_id (by omega) (by omega)]; omega
  · rw [w32_id (by omega) (by omega)]; omega
theorem c_X0_soleLetter (hW : WF sh ν f s) (hB : okB B) (HB : IXb μ B) {x y w h : Nat} (hi : inB B x y w h) (k : ∀ v : Int, (∀ l : Int, 0 ≤ l → (l = v ↔ allL (bl B) x y w h l)) → Q (some (vI v)) sh ν μ) : X mX0_soleLetter 0 [(0, vR 211), (1, vI (x : Nat)), (2, vI (y : Nat)), (3, vI (w : Nat)), (4, vI (h : Nat))] [] sh ν μ 0 0 Q := by
  obtain ⟨⟨b1, b2⟩, ⟨b3, b4⟩, b5⟩ := id hB
  obtain ⟨h1, h2, h3⟩ := HB
  obtain ⟨⟨i1, i2⟩, i3, i4⟩ := hi
  have hw9 : w ≤ 9 := by omega
  have e1 : w32 ((x : Int) + w32 (9 * (y : Int))) = ((9 * y + x : Nat) : Int) := by rw [w32_id (x := 9 * (y : Int)) (by omega) (by omega), w32_id (by omega) (by omega)]; omega
  have e2 : w32 (w32 (((9 * y + x : Nat) : Int) + w32 ((w : Int) - 1)) + w32 (9 * w32 ((h : Int) - 1))) = ((9 * (y + (h - 1)) + (x + (w - 1)) : Nat) : Int) := by
    rw [w32_id (x := (w : Int) - 1) (by omega) (by omega), w32_id (x := (h : Int) - 1) (by omega) (by omega), w32_id (x := 9 * ((h : Int) - 1)) (by omega) (by omega), w32_id (x := ((9 * y + x : Nat) : Int) + ((w : Int) - 1)) (by omega) (by omega), w32_id (by omega) (by omega)]
    omega
  refine g_X0_soleLetter_0 hW ?_
  rw [e1, e2, h1, h2, Int.toNat_natCast, h3 _ (by omega)]
  refine ⟨fun q => absurd (by omega) q, fun _ => ⟨fun _ => ⟨by omega, ?_⟩, fun q => absurd (by omega) q⟩⟩
  have key := loop_up h (fun (j : Nat) (m : Nat → Nat → Int) => m = μ ∧ ∀ i j', i < w → j' < j → bl B (9 * (y + j') + (x + i)) = bl B (9 * y + x)) (fun j m => X mX0_soleLetter 53 [(0, vR 211), (3, vI (w : Nat)), (4, vI (h : Nat)), (5, vI (9 * y + x : Nat)), (6, vI (bl B (9 * y + x))), (7, vI (j : Nat))] [] sh ν m 0 0 Q) ?_ ?_ 0 μ (Nat.zero_le _) ⟨rfl, fun i j _ q => absurd q (Nat.not_lt_zero j)⟩
  · exact key
  · rintro m ⟨g1, g2⟩
    rw [g1]
    refine g_X0_soleLetter_53 hW ⟨fun _ => k _ fun l hl => ?_, fun q => absurd q (by omega)⟩
    constructor
    · intro q i j hi hj
      rw [q]; exact g2 i j hi hj
    · intro q
      have := q 0 0 (by omega) (by omega)
      rw [Nat.add_zero, Nat.add_zero] at this
      exact this.symm
  · rintro j m hj ⟨g1, g2⟩ ih
    rw [g1]
    refine g_X0_soleLetter_53 hW ⟨fun q => absurd q (by omega), fun _ => ?_⟩
    rw [(sole_ar (x := x) (y := y) (w := w) (h := h) (i := 0) (j := j) (by omega) (by omega) (by omega) hj).1]
    have key2 := loop_up w (fun (i : Nat) (m' : Nat → Nat → Int) => m' = μ ∧ ∀ i', i' < i → bl B (9 * (y + j) + (x + i')) = bl B (9 * y + x)) (fun i m' => X mX0_soleLetter 73 [(0, vR 211), (3, vI (w : Nat)), (4, vI (h : Nat)), (5, vI (9 * y + x : Nat)), (6, vI (bl B (9 * y + x))), (7, vI (j : Nat)), (8, vI (9 * (y + j) + x : Nat)), (9, vI (i : Nat))] [] sh ν m' 0 0 Q) ?_ ?_ 0 μ (Nat.zero_le _) ⟨rfl, fun i q => absurd q (Nat.not_lt_zero i)⟩
    · exact key2
    · rintro m' ⟨u1, u2⟩
      rw [u1]
      refine g_X0_soleLetter_73 hW ⟨fun _ => ?_, fun q => absurd q (by omega)⟩
      rw [wi1 (i := j) (by omega)]
      refine ih μ ⟨rfl, fun i j' hi hj' => ?_⟩
      by_cases e : j' = j
      · rw [e]; exact u2 i hi
      · exact g2 i j' hi (by omega)
    · rintro i m' hi2 ⟨u1, u2⟩ ih2
      rw [u1]
      obtain ⟨-, a2, a3⟩ := sole_ar (x := x) (y := y) (w := w) (h := h) (i := i) (j := j) (by omega) (by omega) hi2 hj
      refine g_X0_soleLetter_73 hW ⟨fun q => absurd q (by omega), fun _ => ?_⟩
      rw [a2, Int.toNat_natCast, h3 _ a3]
      refine ⟨tI a3, fun q => ?_, fun q => k (-9) fun l hl => ?_⟩
      · rw [wi1 (i := i) (Nat.lt_of_lt_of_le hi2 (Nat.le_trans hw9 (by decide)))]
        refine ih2 μ ⟨rfl, fun i' hi' => ?_⟩
        by_cases e : i' = i
        · rw [e]; exact q
        · exact u2 i' (by omega)
      · refine ⟨fun z => absurd z (by omega), fun z => absurd ?_ q⟩
        have z1 := z i j hi2 hj
        have z2 := z 0 0 (by omega) (by omega)
        rw [Nat.add_zero, Nat.add_zero] at z2
        rw [z1, z2]
theorem rdO_in {v d : Int} {x n : Nat} (h : x < n) : rdO v d (x : Int) n = v := if_pos ⟨by omega, by omega⟩
theorem wmult_1 {v : Int} (h : wOK v) : wmult 1 v = v := by
  have := wmult_succ (c := 0) (Int.le_refl 0) h
  rw [show (0 : Int) + 1 = 1 from rfl, wmult_0l, wplus_comm, wplus_0 h] at this
  exact this
theorem c_X1_gainOfParts (hW : WF sh ν f s) (hA : isChart a) (hG : okG nR R) (HX : IXg μ nR R) (HA : chA μ a) (hc : c < nsp a * nsp a) (hr : r < nR) (hh : holdsF (R r) (cW a c) (cH a c)) (hl : laidX μ (R r) (cW a c) (cH a c)) (hk : rk (R r) ≠ 0) (hF : F (nmR R r)) (hN : pcN (R r) (cW a c) (cH a c) = 1 → ¬ F (Int.toNat (pcNm (R r) 0)))
    (hp : ∀ i, i < pcN (R r) (cW a c) (cH a c) → rgt μ a B R nR (pcC a c (R r) i) (Int.toNat (pcNm (R r) i))) (H : kInv μ (a + 1) (KDc (evc a B) R nR (cX a c) (cY a c) (cW a c) (cH a c) F) r)
    (k : ∀ μ' : Nat → Nat → Int, kInv μ' (a + 1) (KDc (evc a B) R nR (cX a c) (cY a c) (cW a c) (cH a c) F) (r + 1) → frKn (a + 1) μ μ' → Q none sh ν μ') : X mX1_gainOfParts 0 [(0, vR a), (1, vI (c : Nat)), (2, vI (r : Nat)), (3, vR (7 + 5 * r))] [] sh ν μ 0 0 Q := by
  have hab := isChart_b hA
  have hn := nsp_b hA
  have h40 := hG.1
  have ho := hG.2 r hr
  have hce := cell_ok (B := B) hA hc
  have hKD := kd_ok (F := F) hG hce
  have hrc := ho.2.2.1
  have hs : isSc (cW a c : Nat) (cH a c : Nat) := by
    obtain ⟨h1, h2, h3, h4, -⟩ := hce
    exact ⟨by omega, by omega⟩
  have h20 := pcN_20 ho hs
  have hP := HX.2 r hr
  have hR : isRule (7 + 5 * r) := ⟨r, by omega, rfl⟩
  obtain ⟨nm1, nm2⟩ := nmR_i hG hr
  have hnt : ∀ k, ¬ kT (KDc (evc a B) R nR (cX a c) (cY a c) (cW a c) (cH a c) F) r k := by
    rintro k ⟨-, ht, hFk⟩
    obtain ⟨g1, g2⟩ := tie_rk ht
    exact hN g1.2 (g2.symm ▸ hFk)
  have okw : ∀ i, i < pcN (R r) (cW a c) (cH a c) → wOK (pcV (VW (evc a B) R nR) (R r) (cX a c) (cY a c) (cW a c) (cH a c) i) := fun i hi => pcV_ok hG hce hr hh hi
  have hmade : ∀ i, i < pcN (R r) (cW a c) (cH a c) → (pcV (VW (evc a B) R nR) (R r) (cX a c) (cY a c) (cW a c) (cH a c) i ≠ 0 ↔ pcV (VB (evc a B) R nR) (R r) (cX a c) (cY a c) (cW a c) (cH a c) i ≠ -9) := fun i hi => by
    obtain ⟨hk, p1, p2, p3, p4, p5⟩ := pc_cell ho hce hh hi
    exact VW_madeC hG p5 (pcNm_8 ho hk hi)
  have hvb : ∀ i, i < pcN (R r) (cW a c) (cH a c) → pcV (VB (evc a B) R nR) (R r) (cX a c) (cY a c) (cW a c) (cH a c) i = -9 ∨ (1 ≤ pcV (VB (evc a B) R nR) (R r) (cX a c) (cY a c) (cW a c) (cH a c) i ∧ pcV (VB (evc a B) R nR) (R r) (cX a c) (cY a c) (cW a c) (cH a c) i ≤ 1000000000000) := fun i hi => by
    obtain ⟨hk, p1, p2, p3, p4, p5⟩ := pc_cell ho hce hh hi
    exact VB_top hG p5 (pcNm_8 ho hk hi)
  -- the one piece of a tie
  have hone : pcN (R r) (cW a c) (cH a c) = 1 → pcV (VW (evc a B) R nR) (R r) (cX a c) (cY a c) (cW a c) (cH a c) 0 = VW (evc a B) R nR (cX a c) (cY a c) (cW a c) (cH a c) (Int.toNat (pcNm (R r) 0)) ∧ pcV (VB (evc a B) R nR) (R r) (cX a c) (cY a c) (cW a c) (cH a c) 0 = VB (evc a B) R nR (cX a c) (cY a c) (cW a c) (cH a c) (Int.toNat (pcNm (R r) 0)) := fun h1 => by
    obtain ⟨o1, o2, o3, o4, -⟩ := pc_one (e := evc a B) ho hce hh h1
    unfold pcV
    rw [o1, o2, o3, o4, Int.toNat_natCast, Int.toNat_natCast, Int.toNat_natCast, Int.toNat_natCast]
    exact ⟨rfl, rfl⟩
  have hGiff : kG (KDc (evc a B) R nR (cX a c) (cY a c) (cW a c) (cH a c) F) r ↔ ∀ i, i < pcN (R r) (cW a c) (cH a c) → pcV (VW (evc a B) R nR) (R r) (cX a c) (cY a c) (cW a c) (cH a c) i ≠ 0 := by
    constructor
    · rintro ⟨-, hb | ⟨k, hk8, ht, hFk, hv⟩⟩ i hi
      · exact (hmade i hi).2 (hb.2.2.2 i hi)
      · obtain ⟨g1, g2⟩ := tie_rk ht
        have := g1.2
        rw [show i = 0 by omega, (hone g1.2).1, g2]
        exact (VW_madeC hG hce hk8).2 hv
    · intro q
      refine ⟨hF, ?_⟩
      by_cases h1 : pcN (R r) (cW a c) (cH a c) = 1
      · have hnm := pcNm_b ho hk (show 0 < pcN (R r) (cW a c : Nat) (cH a c : Nat) by omega)
        refine Or.inr ⟨Int.toNat (pcNm (R r) 0), by omega, ⟨hh, hk, h1, by omega⟩, hN h1, ?_⟩
        rw [← (hone h1).2]
        exact (hmade 0 (by omega)).1 (q 0 (by omega))
      · exact Or.inl ⟨hh, fun z => absurd z hk, fun _ => h1, fun i hi => (hmade i hi).1 (q i hi)⟩
  refine g_X1_gainOfParts_0 hW hA hR ?_
  rw [hP.1.2.2.1, hP.1.2.1]
  refine ⟨hrc, ?_⟩
  have key := loop_up (pcN (R r) (cW a c) (cH a c)) (fun (i : Nat) (v : Int × Int) => (∀ j, j < i → pcV (VW (evc a B) R nR) (R r) (cX a c) (cY a c) (cW a c) (cH a c) j ≠ 0) ∧ (v.1 = 0 ∨ v.1 = 1) ∧ (1 ≤ v.2 ∧ v.2 ≤ (1000000000000000000 : Int)) ∧ (v.1 ≠ 0 → prodW (VW (evc a B) R nR) (R r) (cX a c) (cY a c) (cW a c) (cH a c) i = -10) ∧ (v.1 = 0 → prodW (VW (evc a B) R nR) (R r) (cX a c) (cY a c) (cW a c) (cH a c) i = v.2)) (fun i v => X mX1_gainOfParts 21 [(0, vR a), (1, vI (c : Nat)), (2, vI (r : Nat)), (3, vR (7 + 5 * r)), (4, vI (bI (rk (R r) = 2 ∨ rk (R r) = 4))), (5, vI v.1), (6, vL v.2), (8, vL (rc (R r) * 1048576 + 1 + sumN i (pcV (VB (evc a B) R nR) (R r) (cX a c) (cY a c) (cW a c) (cH a c)))), (10, vI (i : Nat))] [] sh ν μ 0 0 Q) ?_ ?_ 0 (0, 1) (Nat.zero_le _) ⟨fun j q => absurd q (Nat.not_lt_zero j), Or.inl rfl, ⟨by decide, by decide⟩, fun q => absurd rfl q, fun _ => rfl⟩
  · have e0 : rc (R r) * 1048576 + 1 + sumN 0 (pcV (VB (evc a B) R nR) (R r) (cX a c) (cY a c) (cW a c) (cH a c)) = rc (R r) * 1048576 + 1 := by show rc (R r) * 1048576 + 1 + 0 = _; omega
    rw [e0] at key
    exact key
  · rintro ⟨fl, many⟩ ⟨g1, g2, g3, g4, g5⟩
    have hg := hGiff.2 g1
    -- what the rule brings
    have eW : kW (KDc (evc a B) R nR (cX a c) (cY a c) (cW a c) (cH a c) F) r = prodW (VW (evc a B) R nR) (R r) (cX a c) (cY a c) (cW a c) (cH a c) (pcN (R r) (cW a c) (cH a c)) := by
      show cI (rk (R r) ≠ 0 ∧ pcN (R r) (cW a c) (cH a c) = 1) (VW (evc a B) R nR (cX a c) (cY a c) (cW a c) (cH a c) (Int.toNat (pcNm (R r) 0))) (ctrW (evc a B) (VW (evc a B) R nR) (R r) (cX a c) (cY a c) (cW a c) (cH a c)) = _
      by_cases h1 : pcN (R r) (cW a c) (cH a c) = 1
      · rw [cI_t ⟨hk, h1⟩, h1]
        show _ = wmult 1 (pcV (VW (evc a B) R nR) (R r) (cX a c) (cY a c) (cW a c) (cH a c) 0)
        rw [wmult_1 (okw 0 (by omega)), (hone h1).1]
      · rw [cI_f fun z => h1 z.2]
        unfold ctrW
        rw [cI_t hh, cI_f hk, cI_f h1]
    have eV : kV (KDc (evc a B) R nR (cX a c) (cY a c) (cW a c) (cH a c) F) r = rc (R r) * 1048576 + 1 + sumN (pcN (R r) (cW a c) (cH a c)) (pcV (VB (evc a B) R nR) (R r) (cX a c) (cY a c) (cW a c) (cH a c)) := by
      show cI (rk (R r) ≠ 0 ∧ pcN (R r) (cW a c) (cH a c) = 1) (tWp R r + VB (evc a B) R nR (cX a c) (cY a c) (cW a c) (cH a c) (Int.toNat (pcNm (R r) 0))) (bWp (VB (evc a B) R nR) R (cX a c) (cY a c) (cW a c) (cH a c) r) = _
      by_cases h1 : pcN (R r) (cW a c) (cH a c) = 1
      · rw [cI_t ⟨hk, h1⟩, h1]
        have e2 : sumN 1 (pcV (VB (evc a B) R nR) (R r) (cX a c) (cY a c) (cW a c) (cH a c)) = 0 + pcV (VB (evc a B) R nR) (R r) (cX a c) (cY a c) (cW a c) (cH a c) 0 := rfl
        rw [e2, (hone h1).2]
        unfold tWp; omega
      · rw [cI_f fun z => h1 z.2]
        rfl
    have h137 : ∀ z : Int, z = prodW (VW (evc a B) R nR) (R r) (cX a c) (cY a c) (cW a c) (cH a c) (pcN (R r) (cW a c) (cH a c)) → X mX1_gainOfParts 137 [(8, vL (rc (R r) * 1048576 + 1 + sumN (pcN (R r) (cW a c) (cH a c)) (pcV (VB (evc a B) R nR) (R r) (cX a c) (cY a c) (cW a c) (cH a c))))] [vL z, vI (r : Nat), vI (nmR R r : Nat), vR (a + 1)] sh ν μ 0 0 Q := by
      rintro z hz
      rw [← eW] at hz
      rw [hz, ← eV]
      refine g_X1_gainOfParts_137 hW (mk_knot hA) ?_
      refine c_X4_gain hW (mk_knot hA) hKD hr hg H fun μ' y1 y2 => ?_
      exact g_X1_gainOfParts_142 hW (k μ' y1 y2)
    refine g_X1_gainOfParts_21 hW hA hR ?_
    rw [hl.1, hP.1.1, nm1]
    refine ⟨fun _ => ⟨fun q => h137 many (g5 q).symm, fun q => h137 (-10) (g4 q).symm⟩, fun q => absurd q (by omega)⟩
  · rintro i ⟨fl, many⟩ hi ⟨g1, g2, g3, g4, g5⟩ ih
    have hpb := pcC_b hA hc ho hh hi
    have hnm := pcNm_b ho hk hi
    obtain ⟨kk, hkk⟩ : ∃ kk : Nat, pcNm (R r) i = kk := ⟨Int.toNat (pcNm (R r) i), by omega⟩
    obtain ⟨v1, v2⟩ := rgt_piece hA hG hc ho hh hi (hp i hi)
    rw [hkk, Int.toNat_natCast] at v1 v2
    have ow := okw i hi
    have sb := sumN_le (n := i) (f := pcV (VB (evc a B) R nR) (R r) (cX a c) (cY a c) (cW a c) (cH a c)) (m := 1000000000000) fun j hj => by
      rcases hvb j (by omega) with q | q
      · exact absurd q ((hmade j (by omega)).1 (g1 j hj))
      · exact ⟨by omega, q.2⟩
    have hvi := hvb i hi
    have hix : w32 (w32 (((pcC a c (R r) i : Nat) : Int) * 8) + (kk : Int)) = ((pcC a c (R r) i * 8 + kk : Nat) : Int) := by
      rw [w32_id (x := ((pcC a c (R r) i : Nat) : Int) * 8) (by omega) (by omega), w32_id (by omega) (by omega)]; omega
    have hlt : pcC a c (R r) i * 8 + kk < nsp a * nsp a * 8 := slot_lt hpb (kk8 hkk hnm)
    have e3 : prodW (VW (evc a B) R nR) (R r) (cX a c) (cY a c) (cW a c) (cH a c) (i + 1) = wmult (prodW (VW (evc a B) R nR) (R r) (cX a c) (cY a c) (cW a c) (cH a c) i) (pcV (VW (evc a B) R nR) (R r) (cX a c) (cY a c) (cW a c) (cH a c) i) := rfl
    refine g_X1_gainOfParts_21 hW hA hR ?_
    rw [hl.1]
    refine ⟨fun q => absurd q (by omega), fun _ => ?_⟩
    refine c_X1_cellOfPart hW hA HA hc ho hh hl hi ?_
    refine g_X1_gainOfParts_42 hW hA hR ?_
    rw [Int.toNat_natCast, (hl.2 i hi).1, hkk, hix, Int.toNat_natCast, rdO_in hlt, v1]
    have h98 : ∀ fl' many' : Int, pcV (VW (evc a B) R nR) (R r) (cX a c) (cY a c) (cW a c) (cH a c) i ≠ 0 → (fl' = 0 ∨ fl' = 1) → (1 ≤ many' ∧ many' ≤ (1000000000000000000 : Int)) → (fl' ≠ 0 → prodW (VW (evc a B) R nR) (R r) (cX a c) (cY a c) (cW a c) (cH a c) (i + 1) = -10) → (fl' = 0 → prodW (VW (evc a B) R nR) (R r) (cX a c) (cY a c) (cW a c) (cH a c) (i + 1) = many') → X mX1_gainOfParts 98 [(0, vR a), (1, vI (c : Nat)), (2, vI (r : Nat)), (3, vR (7 + 5 * r)), (4, vI (bI (rk (R r) = 2 ∨ rk (R r) = 4))), (5, vI fl'), (6, vL many'), (8, vL (rc (R r) * 1048576 + 1 + sumN i (pcV (VB (evc a B) R nR) (R r) (cX a c) (cY a c) (cW a c) (cH a c)))), (10, vI (i : Nat)), (11, vI (pcC a c (R r) i * 8 + kk : Nat))] [] sh ν μ 0 0 Q := by
      intro fl' many' q1 q2 q3 q4 q5
      refine g_X1_gainOfParts_98 hW hA hR ?_
      rw [Int.toNat_natCast, rdO_in hlt, v2, wi1 (i := i) (by omega)]
      have e4 : w64 (rc (R r) * 1048576 + 1 + sumN i (pcV (VB (evc a B) R nR) (R r) (cX a c) (cY a c) (cW a c) (cH a c)) + pcV (VB (evc a B) R nR) (R r) (cX a c) (cY a c) (cW a c) (cH a c) i) = rc (R r) * 1048576 + 1 + sumN (i + 1) (pcV (VB (evc a B) R nR) (R r) (cX a c) (cY a c) (cW a c) (cH a c)) := by
        have e5 : sumN (i + 1) (pcV (VB (evc a B) R nR) (R r) (cX a c) (cY a c) (cW a c) (cH a c)) = sumN i (pcV (VB (evc a B) R nR) (R r) (cX a c) (cY a c) (cW a c) (cH a c)) + pcV (VB (evc a B) R nR) (R r) (cX a c) (cY a c) (cW a c) (cH a c) i := rfl
        rw [e5, w64_id (by omega) (by omega)]; omega
      rw [e4]
      refine ih (fl', many') ⟨fun j hj => ?_, q2, q3, q4, q5⟩
      by_cases e : j = i
      · rw [e]; exact q1
      · exact g1 j (by omega)
    have g3' : 1 ≤ many ∧ many ≤ (1000000000000000000 : Int) := g3
    have g2' : fl = 0 ∨ fl = 1 := g2
    have g4' : fl ≠ 0 → prodW (VW (evc a B) R nR) (R r) (cX a c) (cY a c) (cW a c) (cH a c) i = -10 := g4
    have g5' : fl = 0 → prodW (VW (evc a B) R nR) (R r) (cX a c) (cY a c) (cW a c) (cH a c) i = many := g5
    have hGi : kG (KDc (evc a B) R nR (cX a c) (cY a c) (cW a c) (cH a c) F) r → pcV (VW (evc a B) R nR) (R r) (cX a c) (cY a c) (cW a c) (cH a c) i ≠ 0 := fun z => hGiff.1 z i hi
    generalize pcV (VW (evc a B) R nR) (R r) (cX a c) (cY a c) (cW a c) (cH a c) i = A at ow e3 h98 hGi ⊢
    refine ⟨by omega, fun q => ⟨fun q2 => ⟨by omega, ?_, ?_⟩, fun q2 => h98 1 many q (Or.inr rfl) g3' (fun _ => ?_) fun z => absurd z (by decide)⟩, fun q => ?_⟩
    · unfold wOK at ow; omega
    · have hA0 : 0 < A ∧ A ≤ (1000000000000000000 : Int) := by unfold wOK at ow; omega
      have hm0 : 0 < many * A := Int.mul_pos (by omega) hA0.1
      refine h98 fl (min (many * A) 1000000000000000000) q g2' ⟨by omega, by omega⟩ (fun z => ?_) fun z => ?_
      · rw [e3, g4' z]
        unfold wmult
        rw [if_neg (by omega), if_pos (by omega)]
      · rw [e3, g5' z]
        unfold wmult
        rw [if_neg (by omega), if_neg (by omega)]
    · rw [e3, q2]
      have hne : prodW (VW (evc a B) R nR) (R r) (cX a c) (cY a c) (cW a c) (cH a c) i ≠ 0 := by
        rcases g2' with z | z
        · rw [g5' z]; omega
        · rw [g4' (by omega)]; decide
      unfold wmult
      rw [if_neg (by omega), if_pos (by omega)]
    · exact k μ (kInv_skip hKD hr (fun z => hGi z q) (fun k _ => hnt k) H) ⟨fun _ _ => rfl, fun _ _ _ => rfl⟩
end GP
