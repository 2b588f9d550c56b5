/-! bestStep of the class -/
def frBs (m m' : Nat → Nat → Int) : Prop := ∀ b, ¬ (231 ≤ b ∧ b ≤ 248) → ¬ (207 ≤ b ∧ b ≤ 210) → ¬ (249 ≤ b ∧ b ≤ 258) → m' b = m b
section XB
variable {sh : List (Nat × Nat)} {ν : Nat → Nat → Option Nat} {μ : Nat → Nat → Int} {f s : Nat} {Q : xQ} {nR : Nat} {R : GR} {B : BD}
theorem sameT_ok {T T' : WP} {W H : Int} (h : sameT T T') (hT : okW W H T') : okW W H T := by
  obtain ⟨h1, h2, h3, h4, h5⟩ := h
  unfold okW at *
  rw [h1, h2, h3, h4, h5]; exact hT
theorem sameT_mk {a b c d e g i j a' b' c' d' e' : Int} (h1 : a = a') (h2 : b = b') (h3 : c = c') (h4 : d = d') (h5 : e = e') {g' i' : Int} : sameT (a, b, c, d, e, g, i) (a', b', c', d', e', g', i') := ⟨h1, h2, h3, h4, h5⟩
theorem sameT_piece {T T' : WP} (h : sameT T T') (d : RD) (i : Nat) : sameT (pieceP d T i) (pieceP d (er T') i) := by
  obtain ⟨h1, h2, h3, h4, h5⟩ := h
  by_cases q : rk d = 2 ∨ rk d = 4
  · refine ⟨?_, ?_, ?_, ?_, ?_⟩
    · rw [er_t5 q, pieceP_t q, wn_mk]
    · rw [er_t q, pieceP_t q, wx_mk]; exact h2
    · rw [er_t2 q, pieceP_t q, wy_mk, h3, h4, h5]
    · rw [er_t3 q, pieceP_t q, ww_mk]; exact h4
    · rw [er_t4 q, pieceP_t q, wh_mk, h4, h5]
  · refine ⟨?_, ?_, ?_, ?_, ?_⟩
    · rw [er_f5 q, pieceP_f q, wn_mk]
    · rw [er_f q, pieceP_f q, wx_mk, h2, h4, h5]
    · rw [er_f2 q, pieceP_f q, wy_mk]; exact h3
    · rw [er_f3 q, pieceP_f q, ww_mk, h4, h5]
    · rw [er_f4 q, pieceP_f q, wh_mk]; exact h5
theorem sameT_spread {L : Nat} {P P' : Nat → WP} (h : ∀ k, k < L + 1 → sameT (P k) (P' k)) (d : RD) {k : Nat} (hk : k < L + pcN d (ww (P' L)) (wh (P' L))) : sameT (spreadP L P d (P L) k) (spreadP L P' d (er (P' L)) k) := by
  by_cases q : k < L
  · rw [spreadP_lo q, spreadP_lo q]; exact h k (by omega)
  · obtain ⟨-, -, -, h4, h5⟩ := h L (by omega)
    have e1 : spreadP L P d (P L) k = pieceP d (P L) (pcN d (ww (P L)) (wh (P L)) - 1 - (k - L)) := if_pos (by omega)
    have e2 : spreadP L P' d (er (P' L)) k = pieceP d (er (P' L)) (pcN d (ww (er (P' L))) (wh (er (P' L))) - 1 - (k - L)) := if_pos (by omega)
    rw [e1, e2, h4, h5, ww_er, wh_er]
    exact sameT_piece (h L (by omega)) d _
theorem bstX_loop (hW : WF sh ν f s) (hG : okG nR R) (hB : okB B) {m0 : Nat → Nat → Int} (HX : IXg m0 nR R) (HB : IXb m0 B) {st ans : Int} {i : Nat} (hi : (i : Int) < st) (h20 : st ≤ 100000)
    (k : ∀ m, IXt m 231 B R nR → frBs m0 m → Q (some (vI ans)) sh ν m) : ∀ (d n L : Nat) (P Pc : Nat → WP) (m : Nat → Nat → Int), n + d = i → ans = stpF (eBd B) R nR d L P → bInv B R nR n st L P → pileX m L Pc → (∀ k, k < L → sameT (Pc k) (P k) ∧ 0 ≤ wd (Pc k) ∧ wd (Pc k) ≤ n) → IXt m 231 B R nR → frBs m0 m → X mX9_bestStep 46 [(0, vR 0), (1, vI (i : Nat)), (2, vI (n : Nat))] [] sh ν m 0 0 Q := by
  have h40 := hG.1
  intro d
  induction d with
  | zero =>
    intro n L P Pc m hn ha hI hX hsm hT hF
    have hL1 := bInv_pos hI (by omega)
    obtain ⟨L, rfl⟩ : ∃ L', L = L' + 1 := ⟨L - 1, by omega⟩
    have hL := bInv_L hI
    obtain ⟨hTo, hv⟩ := hI.1 L (by omega)
    obtain ⟨r, er1, hr, hh, hI'⟩ := bInv_step hG hB hI
    obtain ⟨⟨s1, s2, s3, s4, s5⟩, -⟩ := hsm L (by omega)
    have hci := okW_in hTo
    have hc := inB_ok hB hci
    obtain ⟨f1, f2, f3, f4, f5⟩ := okW_i hTo
    refine g_X9_bestStep_46 hW ⟨fun q => absurd q (by omega), fun _ => ?_⟩
    refine c_X8_next1 hW (by omega) hX fun m1 g1 g2 g3 => ?_
    have hF1 : frBs m0 m1 := fun b b0 b1 b2 => by rw [g3 b (by omega)]; exact hF b b0 b1 b2
    have hT1 : IXt m1 231 B R nR := by
      obtain ⟨t1, t2⟩ := hT
      refine ⟨chA_congr (fun b hb => g3 b (by omega)) t1, fun q c hc => ?_⟩
      rw [g3 231 (by decide)] at q
      obtain ⟨y1, y2, y3⟩ := t2 q c hc
      rw [g3 (231 + 13) (by decide), g3 (231 + 14) (by decide)]
      exact ⟨y1, y2, fun n hn z => ⟨(y3 n hn z).1, rgt_congr (g3 _ (by decide)) (g3 _ (by decide)) (g3 _ (by decide)) (y3 n hn z).2⟩⟩
    obtain ⟨⟨q5, q6, q7⟩, q8, q9, -⟩ := g2
    refine g_X9_bestStep_58 hW ⟨fun q => absurd q (by decide), fun _ => ?_⟩
    rw [q5, q6, q7, q8, q9, s1, s2, s3, s4, s5, f1, f2, f3, f4, f5]
    refine c_X1_settle (B := B) hW mk_bound hG (IXg_congr h40 (hF1 1 (by decide) (by decide) (by decide)) (fun b b0 b1 => hF1 b (by omega) (by omega) (by omega)) HX) (fun _ => ⟨hB, IXb_congr (hF1 211 (by decide) (by decide) (by decide)) (hF1 212 (by decide) (by decide) (by decide)) HB⟩) hT1 (okW_n hTo) hc (fun _ => hci) fun m2 r1 r2 r3 => ?_
    have hF2 : frBs m0 m2 := fun b b0 b1 b2 => by rw [r3.1 b (by omega) b1]; exact hF1 b b0 b1 b2
    have epk : VP (eBd B) R nR (Int.toNat (wx (P L))) (Int.toNat (wy (P L))) (Int.toNat (ww (P L))) (Int.toNat (wh (P L))) (Int.toNat (wn (P L))) = (r : Nat) := er1
    refine g_X9_bestStep_107 hW mk_bound ?_
    rw [Int.toNat_natCast, rdO_in (slot_lt (clN_b (B := B) mk_bound hc).1 (okW_n hTo)), r2.2.2, evc_bound, epk, hF2 1 (by decide) (by decide) (by decide), HX.1]
    have hnd : n = i := by omega
    subst hnd
    have ea : ans = (r : Nat) := by rw [ha]; exact er1
    refine ⟨fun _ => ⟨fun z => absurd rfl z, fun _ => ?_⟩, fun z => absurd (by omega) z⟩
    rw [← ea]
    exact k m2 r1 hF2
  | succ d ih =>
    intro n L P Pc m hn ha hI hX hsm hT hF
    have hL1 := bInv_pos hI (by omega)
    obtain ⟨L, rfl⟩ : ∃ L', L = L' + 1 := ⟨L - 1, by omega⟩
    have hL := bInv_L hI
    obtain ⟨hTo, hv⟩ := hI.1 L (by omega)
    obtain ⟨⟨b1, b2⟩, ⟨b3, b4⟩, -⟩ := id hB
    obtain ⟨r, er1, hr, hh, hI'⟩ := bInv_step hG hB hI
    have hL' := bInv_L hI'
    have ho := hG.2 r hr
    obtain ⟨hsame, hd0, hdn⟩ := hsm L (by omega)
    obtain ⟨s1, s2, s3, s4, s5⟩ := id hsame
    have hci := okW_in hTo
    have hc := inB_ok hB hci
    obtain ⟨f1, f2, f3, f4, f5⟩ := okW_i hTo
    refine g_X9_bestStep_46 hW ⟨fun q => absurd q (by omega), fun _ => ?_⟩
    refine c_X8_next1 hW (by omega) hX fun m1 g1 g2 g3 => ?_
    have hF1 : frBs m0 m1 := fun b b0 b1 b2 => by rw [g3 b (by omega)]; exact hF b b0 b1 b2
    have hT1 : IXt m1 231 B R nR := by
      obtain ⟨t1, t2⟩ := hT
      refine ⟨chA_congr (fun b hb => g3 b (by omega)) t1, fun q c hc => ?_⟩
      rw [g3 231 (by decide)] at q
      obtain ⟨y1, y2, y3⟩ := t2 q c hc
      rw [g3 (231 + 13) (by decide), g3 (231 + 14) (by decide)]
      exact ⟨y1, y2, fun n hn z => ⟨(y3 n hn z).1, rgt_congr (g3 _ (by decide)) (g3 _ (by decide)) (g3 _ (by decide)) (y3 n hn z).2⟩⟩
    have hcur := g2
    obtain ⟨⟨q5, q6, q7⟩, q8, q9, -⟩ := g2
    refine g_X9_bestStep_58 hW ⟨fun q => absurd q (by decide), fun _ => ?_⟩
    rw [q5, q6, q7, q8, q9, s1, s2, s3, s4, s5, f1, f2, f3, f4, f5]
    refine c_X1_settle (B := B) hW mk_bound hG (IXg_congr h40 (hF1 1 (by decide) (by decide) (by decide)) (fun b b0 b1 => hF1 b (by omega) (by omega) (by omega)) HX) (fun _ => ⟨hB, IXb_congr (hF1 211 (by decide) (by decide) (by decide)) (hF1 212 (by decide) (by decide) (by decide)) HB⟩) hT1 (okW_n hTo) hc (fun _ => hci) fun m2 r1 r2 r3 => ?_
    have hF2 : frBs m0 m2 := fun b b0 b1 b2 => by rw [r3.1 b (by omega) b1]; exact hF1 b b0 b1 b2
    have epk : VP (eBd B) R nR (Int.toNat (wx (P L))) (Int.toNat (wy (P L))) (Int.toNat (ww (P L))) (Int.toNat (wh (P L))) (Int.toNat (wn (P L))) = (r : Nat) := er1
    have HX2 : IXg m2 nR R := IXg_congr h40 (hF2 1 (by decide) (by decide) (by decide)) (fun b b0 b1 => hF2 b (by omega) (by omega) (by omega)) HX
    refine g_X9_bestStep_107 hW mk_bound ?_
    rw [Int.toNat_natCast, rdO_in (slot_lt (clN_b (B := B) mk_bound hc).1 (okW_n hTo)), r2.2.2, evc_bound, epk, HX2.1, Int.toNat_natCast]
    refine ⟨fun _ => ⟨fun _ => ⟨by omega, ?_⟩, fun z => absurd z (by omega)⟩, fun z => absurd (by omega) z⟩
    have hP2 : ∀ b, 249 ≤ b → b ≤ 258 → m2 b = m1 b := fun b b0 b1 => r3.1 b (by omega) (by omega)
    have hX2 : pileX m2 L Pc := pileX_fr (fun b b0 b1 => hP2 b b0 (by omega)) g1
    have hC2 : curX m2 (Pc L) := by
      unfold curX at hcur ⊢
      rw [hP2 249 (by decide) (by decide)]
      exact hcur
    have ehh : holdsF (R r) (ww (Pc L)) (wh (Pc L)) := by rw [s4, s5]; exact hh
    have epn : pcN (R r) (ww (Pc L)) (wh (Pc L)) = pcN (R r) (ww (P L)) (wh (P L)) := by rw [s4, s5]
    refine c_X8_spread hW ⟨r, by omega, rfl⟩ (HX2.2 r hr) ho (sameT_ok hsame hTo) (show bw B ≤ 20 by omega) (show bh B ≤ 20 by omega) ⟨hd0, by omega⟩ hC2 hX2 ehh (by omega) fun m3 u1 u2 => ?_
    have hF3 : frBs m0 m3 := fun b b0 b1 b2 => by rw [u2 b b1 (by omega) (by omega)]; exact hF2 b b0 b1 b2
    have hT3 : IXt m3 231 B R nR := by
      obtain ⟨t1, t2⟩ := r1
      have g3 : ∀ b, 231 ≤ b → b ≤ 248 → m3 b = m2 b := fun b b0 b1 => u2 b (by omega) (by omega) (by omega)
      refine ⟨chA_congr (fun b hb => g3 b (by omega) (by omega)) t1, fun q c hc => ?_⟩
      rw [g3 231 (by decide) (by decide)] at q
      obtain ⟨y1, y2, y3⟩ := t2 q c hc
      rw [g3 (231 + 13) (by decide) (by decide), g3 (231 + 14) (by decide) (by decide)]
      exact ⟨y1, y2, fun n hn z => ⟨(y3 n hn z).1, rgt_congr (g3 _ (by decide) (by decide)) (g3 _ (by decide) (by decide)) (g3 _ (by decide) (by decide)) (y3 n hn z).2⟩⟩
    refine g_X9_bestStep_148 hW ?_
    rw [wi1 (by omega)]
    rw [epn] at u1
    refine ih (n + 1) _ _ _ m3 (by omega) (by rw [ha]; exact stpF_s d er1) hI' u1 (fun k hk => ⟨sameT_spread (fun k hk => (hsm k hk).1) (R r) hk, ?_⟩) hT3 hF3
    refine spreadP_all (p := fun T => 0 ≤ wd T ∧ wd T ≤ ((n + 1 : Nat) : Int)) (fun k hk => ?_) (fun j hj => ?_) (by rw [epn]; exact hk)
    · have := (hsm k (by omega)).2
      omega
    · rw [pieceP_d]; omega
theorem c_X9_bestStep (hW : WF sh ν f s) (hG : okG nR R) (HX : IXg μ nR R) (hB : okB B) (HB : IXb μ B) (H : IXt μ 231 B R nR) {i : Int} (k : ∀ μ' : Nat → Nat → Int, IXt μ' 231 B R nR → frBs μ μ' → Q (some (vI (ansBst nR R B i))) sh ν μ') : X mX9_bestStep 0 [(0, vR 0), (1, vI i)] [] sh ν μ 0 0 Q := by
  have h40 := hG.1
  obtain ⟨W', H', eW, eH, hi, hc, w9, h9⟩ := bd_all hB
  have hvt : vbT (eBd B) R nR (topB B 0) = VB (eBd B) R nR 0 0 W' H' 0 := by
    have := vbT_mk (R := R) (nR := nR) (T := topB B 0) (e := eBd B) (x := 0) (y := 0) (w := (W' : Int)) (h := (H' : Int)) (n := 0) rfl rfl eW eH rfl
    rw [this, Int.toNat_natCast, Int.toNat_natCast]; rfl
  obtain ⟨v1, v2⟩ := VB_cost hG hc (n := 0) (by decide)
  refine g_X9_bestStep_0 hW ⟨fun q => ?_, fun q => ?_⟩
  · have hk := k μ H fun _ _ _ _ => rfl
    have e0 : ansBst nR R B i = -9 := by unfold ansBst; exact cI_f (by omega)
    rw [e0] at hk; exact hk
  · obtain ⟨ii, rfl⟩ : ∃ nn : Nat, i = nn := ⟨Int.toNat i, by omega⟩
    refine c_X9_settleBoard hW hG HX hB HB H eW eH hi fun m r1 r2 r3 => ?_
    have hF : frBs μ m := fun b b0 b1 b2 => r3.1 b (by omega) b1
    have hk := k m r1 hF
    refine g_X9_bestStep_13 hW mk_bound ?_
    refine g_X1_stepsOf_0 hW mk_bound ?_
    rw [Int.toNat_natCast, rdO_in (slot0_lt hB hi), show (231 + 16 : Nat) = 247 from rfl, r2.2.1]
    have h16 : X mX9_bestStep 16 [(0, vR 0), (1, vI (ii : Nat))] [vI (stepsV (VB (eBd B) R nR 0 0 W' H' 0)), vI (ii : Nat)] sh ν m 0 0 Q := by
      refine g_X9_bestStep_16 hW ⟨fun q2 => ?_, fun q2 => ?_⟩
      · have hne : VB (eBd B) R nR 0 0 W' H' 0 ≠ -9 := fun z => by
          have e : stepsV (VB (eBd B) R nR 0 0 W' H' 0) = 0 := cI_t z
          omega
        have hde := VB_decC hG hc (by decide) hne
        have hA2 := area_le (show W' ≤ 20 by omega) (show H' ≤ 20 by omega)
        obtain ⟨d1, d2, d3, d4⟩ := hde
        have hst : stepsV (VB (eBd B) R nR 0 0 W' H' 0) = VB (eBd B) R nR 0 0 W' H' 0 % 1048576 := cI_f hne
        have ean : ansBst nR R B (ii : Nat) = stpF (eBd B) R nR ii 1 (topB B) := by
          unfold ansBst
          rw [hvt, cI_t ⟨by omega, q2⟩, Int.toNat_natCast]
        rw [hF 211 (by decide) (by decide) (by decide), HB.1, HB.2.1]
        refine g_X8_begin_0 hW ?_
        have hX0 : pileX (up m 249 4 0) 0 (topB B) := ⟨up_s .., fun k hk => absurd hk (Nat.not_lt_zero k)⟩
        refine c_X8_push (T := topB B 0) (P' := topB B) hW (by decide) hX0 (fun _ _ => rfl) rfl fun m2 u1 u2 u3 => ?_
        refine g_X8_begin_16 hW ?_
        refine g_X9_bestStep_44 hW ?_
        have hm2 : ∀ b, b ≠ 249 → ¬ (251 ≤ b ∧ b ≤ 257) → m2 b = m b := fun b b0 b1 => by rw [u3 b b0 b1, up_o' b0]
        have hT2 : IXt m2 231 B R nR := by
          obtain ⟨t1, t2⟩ := r1
          have g3 : ∀ b, 231 ≤ b → b ≤ 248 → m2 b = m b := fun b b0 b1 => hm2 b (by omega) (by omega)
          refine ⟨chA_congr (fun b hb => g3 b (by omega) (by omega)) t1, fun q c hc => ?_⟩
          rw [g3 231 (by decide) (by decide)] at q
          obtain ⟨y1, y2, y3⟩ := t2 q c hc
          rw [g3 (231 + 13) (by decide) (by decide), g3 (231 + 14) (by decide) (by decide)]
          exact ⟨y1, y2, fun n hn z => ⟨(y3 n hn z).1, rgt_congr (g3 _ (by decide) (by decide)) (g3 _ (by decide) (by decide)) (g3 _ (by decide) (by decide)) (y3 n hn z).2⟩⟩
        have hF2 : frBs μ m2 := fun b b0 b1 b2 => by rw [hm2 b (by omega) (by omega)]; exact hF b b0 b1 b2
        refine bstX_loop (m0 := m2) (ans := ansBst nR R B (ii : Nat)) (st := stepsV (vbT (eBd B) R nR (topB B 0))) (i := ii) hW hG hB (IXg_congr h40 (hF2 1 (by decide) (by decide) (by decide)) (fun b b0 b1 => hF2 b (by omega) (by omega) (by omega)) HX) (IXb_congr (hF2 211 (by decide) (by decide) (by decide)) (hF2 212 (by decide) (by decide) (by decide)) HB) (by rw [hvt]; exact q2) (by rw [hvt, hst]; omega) (fun m' y1 y2 => k m' y1 fun b b0 b1 b2 => by rw [y2 b b0 b1 b2]; exact hF2 b b0 b1 b2) ii 0 1 (topB B) (topB B) m2 (by omega) ean (bInv_top hB (by rw [hvt]; exact hne)) u1 (fun k _ => ⟨⟨rfl, rfl, rfl, rfl, rfl⟩, Int.le_refl 0, Int.le_refl 0⟩) hT2 fun _ _ _ _ => rfl
      · have e0 : ansBst nR R B (ii : Nat) = -9 := by
          unfold ansBst
          rw [hvt]
          exact cI_f (by omega)
        rw [e0] at hk; exact hk
    refine ⟨fun q => ?_, fun q => ?_⟩
    · rw [(v2 q).2]; exact h16
    · rw [(v1 q).2] at h16; exact h16
end XB
