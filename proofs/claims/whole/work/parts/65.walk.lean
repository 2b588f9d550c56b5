/-! the best, read from the top: a walk on waiting places -/
noncomputable def vbT (e : EV) (R : GR) (nR : Nat) (T : WP) : Int := VB e R nR (Int.toNat (wx T)) (Int.toNat (wy T)) (Int.toNat (ww T)) (Int.toNat (wh T)) (Int.toNat (wn T))
noncomputable def vpT (e : EV) (R : GR) (nR : Nat) (T : WP) : Int := VP e R nR (Int.toNat (wx T)) (Int.toNat (wy T)) (Int.toNat (ww T)) (Int.toNat (wh T)) (Int.toNat (wn T))
def er (T : WP) : WP := (wn T, wx T, wy T, ww T, wh T, 0, 0)
def sameT (T T' : WP) : Prop := wn T = wn T' ∧ wx T = wx T' ∧ wy T = wy T' ∧ ww T = ww T' ∧ wh T = wh T'
noncomputable def stpF (e : EV) (R : GR) (nR : Nat) : Nat → Nat → (Nat → WP) → Int
  | 0, L, P => vpT e R nR (P (L - 1))
  | n + 1, L, P => stpF e R nR n (L - 1 + pcN (R (Int.toNat (vpT e R nR (P (L - 1))))) (ww (P (L - 1))) (wh (P (L - 1)))) (spreadP (L - 1) P (R (Int.toNat (vpT e R nR (P (L - 1))))) (er (P (L - 1))))
noncomputable def stepsV (v : Int) : Int := cI (v = -9) 0 (v % 1048576)
def topB (B : BD) : Nat → WP := fun _ => (0, 0, 0, bw B, bh B, 0, 0)
noncomputable def ansBst (nR : Nat) (R : GR) (B : BD) (i : Int) : Int := cI (0 ≤ i ∧ i < stepsV (vbT (eBd B) R nR (topB B 0))) (stpF (eBd B) R nR (Int.toNat i) 1 (topB B)) (-9)
/-- n rules are read; each waiting place has a best; what is left -/
def bInv (B : BD) (R : GR) (nR : Nat) (n : Nat) (st : Int) (L : Nat) (P : Nat → WP) : Prop := (∀ k, k < L → okW (bw B) (bh B) (P k) ∧ vbT (eBd B) R nR (P k) ≠ -9) ∧ (n : Int) + sumN L (fun k => vbT (eBd B) R nR (P k) % 1048576) = st ∧ sumN L (fun k => ar (P k)) ≤ 81
section WA
variable {nR : Nat} {R : GR} {B : BD} {n L : Nat} {st : Int} {P : Nat → WP} {T : WP}
theorem okW_in (hT : okW (bw B) (bh B) T) : inB B (Int.toNat (wx T)) (Int.toNat (wy T)) (Int.toNat (ww T)) (Int.toNat (wh T)) := by
  obtain ⟨-, ⟨t1, t2, t3⟩, t4, t5, t6⟩ := hT
  exact ⟨⟨by omega, by omega⟩, by omega, by omega⟩
theorem okW_n (hT : okW (bw B) (bh B) T) : Int.toNat (wn T) < 8 := by
  have := hT.1
  omega
theorem okW_i (hT : okW (bw B) (bh B) T) : wx T = (Int.toNat (wx T) : Nat) ∧ wy T = (Int.toNat (wy T) : Nat) ∧ ww T = (Int.toNat (ww T) : Nat) ∧ wh T = (Int.toNat (wh T) : Nat) ∧ wn T = (Int.toNat (wn T) : Nat) := by
  obtain ⟨t0, ⟨t1, t2, t3⟩, t4, t5, t6⟩ := hT
  omega
theorem okW_er (hT : okW (bw B) (bh B) T) : okW (bw B) (bh B) (er T) := hT
theorem vbT_mk {e : EV} {x y w h n : Int} (h1 : wx T = x) (h2 : wy T = y) (h3 : ww T = w) (h4 : wh T = h) (h5 : wn T = n) : vbT e R nR T = VB e R nR (Int.toNat x) (Int.toNat y) (Int.toNat w) (Int.toNat h) (Int.toNat n) := by
  unfold vbT; rw [h1, h2, h3, h4, h5]
theorem pc_t {d : RD} {x y w h : Int} (q : rk d = 2 ∨ rk d = 4) (i : Nat) : pcX d x w h i = x ∧ pcY d y w h i = y + pcB d w h i ∧ pcW d w h i = w ∧ pcH d w h i = pcL d w h i := ⟨if_pos q, if_pos q, if_pos q, if_pos q⟩
theorem pc_f {d : RD} {x y w h : Int} (q : ¬ (rk d = 2 ∨ rk d = 4)) (i : Nat) : pcX d x w h i = x + pcB d w h i ∧ pcY d y w h i = y ∧ pcW d w h i = pcL d w h i ∧ pcH d w h i = h := ⟨if_neg q, if_neg q, if_neg q, if_neg q⟩
theorem wn_mk (a b c d e f g : Int) : wn ((a, b, c, d, e, f, g) : WP) = a := rfl
theorem wn_er (T : WP) : wn (er T) = wn T := wn_mk ..
theorem wx_mk (a b c d e f g : Int) : wx ((a, b, c, d, e, f, g) : WP) = b := rfl
theorem wx_er (T : WP) : wx (er T) = wx T := wx_mk ..
theorem wy_mk (a b c d e f g : Int) : wy ((a, b, c, d, e, f, g) : WP) = c := rfl
theorem wy_er (T : WP) : wy (er T) = wy T := wy_mk ..
theorem ww_mk (a b c d e f g : Int) : ww ((a, b, c, d, e, f, g) : WP) = d := rfl
theorem ww_er (T : WP) : ww (er T) = ww T := ww_mk ..
theorem wh_mk (a b c d e f g : Int) : wh ((a, b, c, d, e, f, g) : WP) = e := rfl
theorem wh_er (T : WP) : wh (er T) = wh T := wh_mk ..
theorem er_t {d : RD} (q : rk d = 2 ∨ rk d = 4) (i : Nat) : wx (pieceP d (er T) i) = wx T := by rw [pieceP_t q, wx_mk, wx_er]
theorem er_t2 {d : RD} (q : rk d = 2 ∨ rk d = 4) (i : Nat) : wy (pieceP d (er T) i) = wy T + pcB d (ww T) (wh T) i := by rw [pieceP_t q, wy_mk, wy_er, ww_er, wh_er]
theorem er_t3 {d : RD} (q : rk d = 2 ∨ rk d = 4) (i : Nat) : ww (pieceP d (er T) i) = ww T := by rw [pieceP_t q, ww_mk, ww_er]
theorem er_t4 {d : RD} (q : rk d = 2 ∨ rk d = 4) (i : Nat) : wh (pieceP d (er T) i) = pcL d (ww T) (wh T) i := by rw [pieceP_t q, wh_mk, ww_er, wh_er]
theorem er_t5 {d : RD} (q : rk d = 2 ∨ rk d = 4) (i : Nat) : wn (pieceP d (er T) i) = pcNm d i := by rw [pieceP_t q, wn_mk]
theorem er_f {d : RD} (q : ¬ (rk d = 2 ∨ rk d = 4)) (i : Nat) : wx (pieceP d (er T) i) = wx T + pcB d (ww T) (wh T) i := by rw [pieceP_f q, wx_mk, wx_er, ww_er, wh_er]
theorem er_f2 {d : RD} (q : ¬ (rk d = 2 ∨ rk d = 4)) (i : Nat) : wy (pieceP d (er T) i) = wy T := by rw [pieceP_f q, wy_mk, wy_er]
theorem er_f3 {d : RD} (q : ¬ (rk d = 2 ∨ rk d = 4)) (i : Nat) : ww (pieceP d (er T) i) = pcL d (ww T) (wh T) i := by rw [pieceP_f q, ww_mk, ww_er, wh_er]
theorem er_f4 {d : RD} (q : ¬ (rk d = 2 ∨ rk d = 4)) (i : Nat) : wh (pieceP d (er T) i) = wh T := by rw [pieceP_f q, wh_mk, wh_er]
theorem er_f5 {d : RD} (q : ¬ (rk d = 2 ∨ rk d = 4)) (i : Nat) : wn (pieceP d (er T) i) = pcNm d i := by rw [pieceP_f q, wn_mk]
theorem vbT_piece0 (x y w h : Nat) (e1 : wx T = x) (e2 : wy T = y) (e3 : ww T = w) (e4 : wh T = h) (d : RD) (i : Nat) : vbT (eBd B) R nR (pieceP d (er T) i) = pcV (VB (eBd B) R nR) d x y w h i := by
  unfold pcV
  by_cases q : rk d = 2 ∨ rk d = 4
  · obtain ⟨a1, a2, a3, a4⟩ := pc_t (x := x) (y := y) (w := w) (h := h) q i
    rw [a1, a2, a3, a4, vbT_mk (er_t q i) (er_t2 q i) (er_t3 q i) (er_t4 q i) (er_t5 q i), e1, e2, e3, e4]
  · obtain ⟨a1, a2, a3, a4⟩ := pc_f (x := x) (y := y) (w := w) (h := h) q i
    rw [a1, a2, a3, a4, vbT_mk (er_f q i) (er_f2 q i) (er_f3 q i) (er_f4 q i) (er_f5 q i), e1, e2, e3, e4]
theorem vbT_piece (hT : okW (bw B) (bh B) T) (d : RD) (i : Nat) : vbT (eBd B) R nR (pieceP d (er T) i) = pcV (VB (eBd B) R nR) d (Int.toNat (wx T)) (Int.toNat (wy T)) (Int.toNat (ww T)) (Int.toNat (wh T)) i := by
  obtain ⟨e1, e2, e3, e4, e5⟩ := okW_i hT
  exact vbT_piece0 _ _ _ _ e1 e2 e3 e4 d i
theorem bInv_L (hI : bInv B R nR n st L P) : L ≤ 81 := by
  have h1 := sumN_ge_n (n := L) (f := fun k => ar (P k)) fun i hi => ar_pos (hI.1 i hi).1
  have h2 := hI.2.2
  omega
theorem bInv_pos (hI : bInv B R nR n st L P) (h : (n : Int) < st) : 1 ≤ L := by
  cases L with
  | zero =>
    have h1 : (n : Int) + 0 = st := hI.2.1
    omega
  | succ L => omega
/-- the rule at a place, and what its pieces weigh -/
theorem bst_step (hG : okG nR R) (hB : okB B) (hT : okW (bw B) (bh B) T) (hv : vbT (eBd B) R nR T ≠ -9) : ∃ r : Nat, vpT (eBd B) R nR T = r ∧ r < nR ∧ holdsF (R r) (ww T) (wh T) ∧ (∀ i, i < pcN (R r) (ww T) (wh T) → vbT (eBd B) R nR (pieceP (R r) (er T) i) ≠ -9) ∧ vbT (eBd B) R nR T % 1048576 = 1 + sumN (pcN (R r) (ww T) (wh T)) (fun i => vbT (eBd B) R nR (pieceP (R r) (er T) i) % 1048576) := by
  have hc := inB_ok hB (okW_in hT)
  have hn := okW_n hT
  obtain ⟨e1, e2, e3, e4, e5⟩ := okW_i hT
  have hvp := fun d i => vbT_piece (R := R) (nR := nR) hT d i
  unfold vbT vpT at *
  generalize hx : Int.toNat (wx T) = x at *
  generalize hy : Int.toNat (wy T) = y at *
  generalize hww : Int.toNat (ww T) = w at *
  generalize hhh : Int.toNat (wh T) = h at *
  generalize hnn : Int.toNat (wn T) = nn at *
  rw [e3, e4]
  rcases VP_spec hG hc hn with ⟨q, -⟩ | ⟨-, r, h1, h2, h3, h4, -⟩
  · exact absurd q hv
  · have ho := hG.2 r h2
    have hrc := ho.2.2.1
    have hbig : ∀ i, holdsF (R r) w h → i < pcN (R r) w h → pcV (VB (eBd B) R nR) (R r) x y w h i ≠ -9 → okDv (pcW (R r) w h i * pcH (R r) w h i) (pcV (VB (eBd B) R nR) (R r) x y w h i) := fun i g hi hne => by
      obtain ⟨hk, p1, p2, p3, p4, p5⟩ := pc_cell ho hc g hi
      have := VB_decC hG p5 (pcNm_8 ho hk hi) hne
      rw [Int.toNat_of_nonneg (by omega), Int.toNat_of_nonneg (by omega)] at this
      exact this
    have hdec := VB_decC hG hc hn hv
    rcases h4 with ⟨hA, hW⟩ | ⟨k, hk8, ht, hkv, hW⟩
    · refine ⟨r, h1, h2, hA.1, fun i hi => by rw [hvp]; exact hA.2.2.2 i hi, ?_⟩
      rw [sumN_congr (g := fun i => pcV (VB (eBd B) R nR) (R r) x y w h i % 1048576) fun i _ => by rw [hvp]]
      have hpd : ∀ i, i < pcN (R r) w h → okDv (pcW (R r) w h i * pcH (R r) w h i) (pcV (VB (eBd B) R nR) (R r) x y w h i) := fun i hi => hbig i hA.1 hi (hA.2.2.2 i hi)
      have hf1 : 0 ≤ sumN (pcN (R r) w h) (fun i => pcV (VB (eBd B) R nR) (R r) x y w h i % 1048576) := sumN_nn fun i hi => by have := (hpd i hi).2.2.1; omega
      have hfb : 1 + sumN (pcN (R r) w h) (fun i => pcV (VB (eBd B) R nR) (R r) x y w h i % 1048576) ≤ 16 * ((w : Int) * h) - 15 := by
        by_cases hk : rk (R r) = 0
        · have h0 : pcN (R r) w h = 0 := if_pos hk
          have hA1 := area_pos hc.1 hc.2.1
          rw [h0]
          show 1 + (0 : Int) ≤ _
          omega
        · exact few_base ho hc hA.1 hk (hA.2.2.1 hk) fun i hi => (hpd i hi).2.2.2
      have hA2 := area_le (show w ≤ 20 by have := hc.2.2.1; omega) (show h ≤ 20 by have := hc.2.2.2.1; omega)
      have hsum : sumN (pcN (R r) w h) (pcV (VB (eBd B) R nR) (R r) x y w h) = 1048576 * sumN (pcN (R r) w h) (fun i => pcV (VB (eBd B) R nR) (R r) x y w h i / 1048576) + sumN (pcN (R r) w h) (fun i => pcV (VB (eBd B) R nR) (R r) x y w h i % 1048576) := by
        rw [← sumN_mulc, ← sumN_add]
        exact sumN_congr fun i hi => (Int.mul_ediv_add_emod _ _).symm
      unfold bWp at hW
      rw [hsum] at hW
      generalize sumN (pcN (R r) w h) (fun i => pcV (VB (eBd B) R nR) (R r) x y w h i / 1048576) = C at *
      generalize sumN (pcN (R r) w h) (fun i => pcV (VB (eBd B) R nR) (R r) x y w h i % 1048576) = F at *
      rw [hW]
      clear hsum hW hpd hbig hdec hv
      omega
    · have hN := ht.2.2.1
      have hg := ht.1
      have hrk := ht.2.1
      obtain ⟨o1, o2, o3, o4, -⟩ := pc_one (e := eBd B) ho hc hg hN
      have ev : pcV (VB (eBd B) R nR) (R r) x y w h 0 = VB (eBd B) R nR x y w h k := by
        unfold pcV
        rw [o1, o2, o3, o4, ht.2.2.2, Int.toNat_natCast, Int.toNat_natCast, Int.toNat_natCast, Int.toNat_natCast, Int.toNat_natCast]
      refine ⟨r, h1, h2, hg, fun i hi => ?_, ?_⟩
      · rw [hvp, show i = 0 by omega, ev]; exact hkv
      · have hdk := VB_decC hG hc hk8 hkv
        rw [hN]
        show _ = 1 + (0 + VB (eBd B) R nR _ _ _ _ _ % 1048576)
        have e6 := hvp (R r) 0
        rw [e6, ev]
        unfold tWp at hW
        unfold okDv at hdk
        have hA2 := area_le (show w ≤ 20 by have := hc.2.2.1; omega) (show h ≤ 20 by have := hc.2.2.2.1; omega)
        generalize VB (eBd B) R nR x y w h nn = v at *
        generalize VB (eBd B) R nR x y w h k = v' at *
        generalize (w : Int) * h = A at *
        obtain ⟨-, -, k1, k2⟩ := hdk
        clear hdec hkv hv ev e6 hbig hvp
        omega
theorem bInv_step (hG : okG nR R) (hB : okB B) (hI : bInv B R nR n st (L + 1) P) : ∃ r : Nat, vpT (eBd B) R nR (P L) = r ∧ r < nR ∧ holdsF (R r) (ww (P L)) (wh (P L)) ∧ bInv B R nR (n + 1) st (L + pcN (R r) (ww (P L)) (wh (P L))) (spreadP L P (R r) (er (P L))) := by
  obtain ⟨i1, i2, i3⟩ := hI
  obtain ⟨hT, hv⟩ := i1 L (by omega)
  obtain ⟨⟨b1, b2⟩, ⟨b3, b4⟩, -⟩ := id hB
  obtain ⟨r, h1, h2, h3, h4, h5⟩ := bst_step hG hB hT hv
  have ho := hG.2 r h2
  have hs : isSc (ww (P L)) (wh (P L)) := okW_sc (by omega) (by omega) hT
  have i2' : (n : Int) + (sumN L (fun k => vbT (eBd B) R nR (P k) % 1048576) + vbT (eBd B) R nR (P L) % 1048576) = st := i2
  have i3' : sumN L (fun k => ar (P k)) + ar (P L) ≤ 81 := i3
  refine ⟨r, h1, h2, h3, fun k hk => ?_, ?_, ?_⟩
  · refine spreadP_all (T := er (P L)) (p := fun T => okW (bw B) (bh B) T ∧ vbT (eBd B) R nR T ≠ -9) (fun k hk => i1 k (by omega)) (fun i hi => ⟨pieceP_ok ho (okW_er hT) (by omega) (by omega) h3 (pcN_k hi) hi, h4 i hi⟩) hk
  · have := spreadP_sum (d := R r) (T := er (P L)) (L := L) (P := P) (fun T => vbT (eBd B) R nR T % 1048576)
    have e1 : sumN (L + pcN (R r) (ww (P L)) (wh (P L))) (fun k => vbT (eBd B) R nR (spreadP L P (R r) (er (P L)) k) % 1048576) = sumN L (fun k => vbT (eBd B) R nR (P k) % 1048576) + sumN (pcN (R r) (ww (P L)) (wh (P L))) (fun i => vbT (eBd B) R nR (pieceP (R r) (er (P L)) i) % 1048576) := this
    rw [e1]
    omega
  · have := spreadP_sum (d := R r) (T := er (P L)) (L := L) (P := P) ar
    have e1 : sumN (L + pcN (R r) (ww (P L)) (wh (P L))) (fun k => ar (spreadP L P (R r) (er (P L)) k)) = sumN L (fun k => ar (P k)) + sumN (pcN (R r) (ww (P L)) (wh (P L))) (fun i => ar (pieceP (R r) (er (P L)) i)) := this
    rw [e1]
    have ha := ar_pos hT
    by_cases hk : rk (R r) = 0
    · have e0 : pcN (R r) (ww (P L)) (wh (P L)) = 0 := if_pos hk
      rw [e0]
      show sumN L (fun k => ar (P k)) + (0 : Int) ≤ 81
      omega
    · have h6 : sumN (pcN (R r) (ww (P L)) (wh (P L))) (fun i => ar (pieceP (R r) (er (P L)) i)) = ar (P L) := pieceP_area (T := er (P L)) ho hs h3 hk
      rw [h6]; exact i3'
theorem stpF_s (m : Nat) {r : Nat} (h : vpT (eBd B) R nR (P L) = r) : stpF (eBd B) R nR (m + 1) (L + 1) P = stpF (eBd B) R nR m (L + pcN (R r) (ww (P L)) (wh (P L))) (spreadP L P (R r) (er (P L))) := by
  show stpF (eBd B) R nR m (L + 1 - 1 + pcN (R (Int.toNat (vpT (eBd B) R nR (P (L + 1 - 1))))) (ww (P (L + 1 - 1))) (wh (P (L + 1 - 1)))) (spreadP (L + 1 - 1) P (R (Int.toNat (vpT (eBd B) R nR (P (L + 1 - 1))))) (er (P (L + 1 - 1)))) = _
  rw [Nat.add_sub_cancel, h, Int.toNat_natCast]
theorem bInv_top (hB : okB B) (hv : vbT (eBd B) R nR (topB B 0) ≠ -9) : bInv B R nR 0 (stepsV (vbT (eBd B) R nR (topB B 0))) 1 (topB B) := by
  obtain ⟨⟨b1, b2⟩, ⟨b3, b4⟩, -⟩ := id hB
  refine ⟨fun k _ => ⟨⟨by show (0 : Int) ≤ 0 ∧ (0 : Int) ≤ 7; decide, ⟨Int.le_refl 0, b1, by show 0 + bw B ≤ bw B; omega⟩, Int.le_refl 0, b3, by show 0 + bh B ≤ bh B; omega⟩, hv⟩, ?_, ?_⟩
  · unfold stepsV
    rw [cI_f hv]
    show (0 : Int) + (0 + vbT (eBd B) R nR (topB B 0) % 1048576) = _
    omega
  · show 0 + bw B * bh B ≤ 81
    have : bw B * bh B ≤ 9 * 9 := Int.mul_le_mul b2 b4 (by omega) (by omega)
    omega
end WA
