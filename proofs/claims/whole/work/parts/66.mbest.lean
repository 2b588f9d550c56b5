/-! the reference's bestStep -/
/-- what reading the best leaves -/
def frY (μ μ' : Nat → Nat → Int) : Prop := (∀ b, b ≠ 265 → ¬ (278 ≤ b ∧ b ≤ 280) → ¬ (285 ≤ b ∧ b ≤ 291) → ¬ (293 ≤ b ∧ b ≤ 300) → μ' b = μ b) ∧ ∀ j, j ≠ 14 → j ≠ 47 → j ≠ 48 → j ≠ 42 → j ≠ 49 → j ≠ 50 → j ≠ 27 → μ' 265 j = μ 265 j
def frXb (μ μ' : Nat → Nat → Int) : Prop := (∀ b, b ≠ 265 → ¬ (278 ≤ b ∧ b ≤ 280) → ¬ (285 ≤ b ∧ b ≤ 291) → μ' b = μ b) ∧ ∀ j, j ≠ 14 → j ≠ 27 → μ' 265 j = μ 265 j
section MX
variable {sh : List (Nat × Nat)} {ν : Nat → Nat → Option Nat} {μ : Nat → Nat → Int} {f s : Nat} {Q : xQ} {nR : Nat} {R : GR} {B : BD}
theorem IMt_same {m m' : Nat → Nat → Int} (h3 : m' 293 = m 293) (h4 : m' 294 = m 294) (h5 : m' 295 = m 295) (h6 : m' 296 = m 296) (h7 : m' 265 49 = m 265 49) (h8 : m' 265 50 = m 265 50) (H : IMt m nR R B) : IMt m' nR R B := by
  unfold IMt tbd dnT enV enB at *
  rw [h3, h4, h5, h6, h7, h8]
  exact H
theorem bst_loop (hW : WF sh ν f s) (hG : okG nR R) (hB : okB B) {m0 : Nat → Nat → Int} (HM : IMg m0 nR R) (hd : dnT m0 (eBd B) R nR (inB B)) (he : m0 265 42 = 1) {st ans : Int} {i : Nat} (hi : (i : Int) < st) (h20 : st ≤ 100000)
    (k : ∀ m, frXb m0 m → Q (some (vI ans)) sh ν m) : ∀ (d n L : Nat) (P : Nat → WP) (m : Nat → Nat → Int) (x3 : Int), n + d = i + 1 → (d = 0 → x3 = ans) → (∀ d', d = d' + 1 → ans = stpF (eBd B) R nR d' L P ∧ bInv B R nR n st L P) → pileM m L P → frXb m0 m → X mX10_bestStep 96 [(0, vR 265), (1, vI (i : Nat)), (3, vI x3), (4, vI (n : Nat))] [] sh ν m 0 0 Q := by
  have h40 := hG.1
  intro d
  induction d with
  | zero =>
    intro n L P m x3 hn h0 _ hX hF
    refine g_X10_bestStep_96 hW ⟨fun _ => ?_, fun q => absurd q (by omega)⟩
    rw [h0 rfl]; exact k m hF
  | succ d ih =>
    intro n L P m x3 hn _ h1 hX hF
    obtain ⟨ha, hI⟩ := h1 d rfl
    have hL1 := bInv_pos hI (by omega)
    obtain ⟨L, rfl⟩ : ∃ L', L = L' + 1 := ⟨L - 1, by omega⟩
    have hL := bInv_L hI
    obtain ⟨hT, hv⟩ := hI.1 L (by omega)
    obtain ⟨⟨b1, b2⟩, ⟨b3, b4⟩, -⟩ := id hB
    have hs : isSc (ww (P L)) (wh (P L)) := okW_sc (by omega) (by omega) hT
    obtain ⟨r, er1, hr, hh, hI'⟩ := bInv_step hG hB hI
    have hL' := bInv_L hI'
    have ho := hG.2 r hr
    obtain ⟨⟨e5, e6, e7⟩, e8, e9, e10, e11⟩ := hX.2 L (by omega)
    have hci := okW_in hT
    have hc := inB_ok hB hci
    obtain ⟨f1, f2, f3, f4, f5⟩ := okW_i hT
    have hpl := plN_i hc (okW_n hT)
    have hen : m0 296 (plN (eBd B) (Int.toNat (wx (P L))) (Int.toNat (wy (P L))) (Int.toNat (ww (P L))) (Int.toNat (wh (P L))) (Int.toNat (wn (P L)))) = (r : Nat) := by
      rw [(hd _ _ _ _ hci _ (okW_n hT)).2.1]; exact er1
    rw [← f1, ← f2, ← f3, ← f4, ← f5] at hpl
    have ew : w32 (((L + 1 : Nat) : Int) - 1) = (L : Nat) := by rw [w32_id (by omega) (by omega)]; omega
    have e42 : m 265 42 = 1 := by rw [hF.2 42 (by decide) (by decide)]; exact he
    have q296 : m 296 = m0 296 := hF.1 296 (by decide) (by decide) (by decide)
    have hT0 := hT
    obtain ⟨t0, ⟨t1, t2, t3⟩, t4, t5, t6⟩ := hT0
    refine g_X10_bestStep_96 hW ?_
    rw [hX.1, ew, Int.toNat_natCast, e5, e8, e9, e10, e11, up_k' (show (42 : Nat) ≠ 27 by decide), e42, show (1 : Int) = eI (eBd B) from rfl, hpl.1, Int.toNat_natCast, q296, hen]
    refine ⟨fun q => absurd q (by omega), fun _ => ⟨by omega, by omega, by omega, by omega, by omega, by omega, ⟨t2, by omega⟩, ⟨t5, by omega⟩, by omega, tI hpl.2, ?_⟩⟩
    have hF1 : frXb m0 (up m 265 27 (L : Nat)) := ⟨fun b b0 b1 b2 => by rw [up_o' b0]; exact hF.1 b b0 b1 b2, fun j j0 j1 => by rw [up_k' j1]; exact hF.2 j j0 j1⟩
    have hX1 : pileM (up m 265 27 (L : Nat)) L P := ⟨up_s .., fun j hj => by simp (disch := omega) only [up_a']; exact hX.2 j (by omega)⟩
    generalize up m 265 27 (L : Nat) = m1 at hF1 hX1
    have inIM : ∀ {m : Nat → Nat → Int}, frXb m0 m → IMg m nR R := fun h => IMg_congr (h.2 0 (by decide) (by decide)) (fun b b0 b1 => h.1 b (by omega) (by omega) (by omega)) HM
    refine c_X10_lay hW (by omega) ((inIM hF1).2 r hr) ho hs.1 hs.2 (fun _ m2 g1 g2 => ?_) (fun g => absurd hh g)
    have hF2 : frXb m0 m2 := ⟨fun b b0 b1 b2 => by rw [g2.1 b b0 (by omega) (by omega) (by omega)]; exact hF1.1 b b0 b1 b2, fun j j0 j1 => by rw [g2.2 j j0]; exact hF1.2 j j0 j1⟩
    have hX2 : pileM m2 L P := pileM_fr (g2.2 27 (by decide)) (fun b b0 b1 => g2.1 b (by omega) (by omega) (by omega) (by omega)) hX1
    refine g_X10_bestStep_193 hW ?_
    have hpp := c_X10_putPieces (Q := fun v sh' ν' μ' => X mX10_bestStep 210 [(0, vR 265), (1, vI (i : Nat)), (3, vI (r : Nat)), (4, vI (n : Nat))] (v.toList ++ []) sh' ν' μ' 0 0 Q) hW (show r < 40 by omega) ((inIM hF2).2 r hr) ho (okW_er hT) (show bw B ≤ 20 by omega) (show bh B ≤ 20 by omega) (show 0 ≤ (0 : Int) ∧ (0 : Int) ≤ 1000000 by decide) g1 hX2 hh (show L + pcN (R r) (ww (P L)) (wh (P L)) ≤ 600 by omega) fun m3 u1 u2 => ?_
    · exact hpp
    · refine g_X10_bestStep_210 hW ?_
      have hF3 : frXb m0 m3 := ⟨fun b b0 b1 b2 => by rw [u2.1 b b0 b2]; exact hF2.1 b b0 b1 b2, fun j j0 j1 => by rw [u2.2 j j1]; exact hF2.2 j j0 j1⟩
      rw [wi1 (by omega)]
      refine ih (n + 1) _ _ m3 (r : Nat) (by omega) (fun q => ?_) (fun d' q => ?_) u1 hF3
      · subst q
        rw [ha]; exact er1.symm
      · subst q
        rw [ha]
        exact ⟨stpF_s d' er1, hI'⟩
theorem c_X10_bestStep (hW : WF sh ν f s) (hG : okG nR R) (HM : IMg μ nR R) (hB : okB B) (HB : IMb μ B) (HT : IMt μ nR R B) {i : Int} (k : ∀ μ' : Nat → Nat → Int, IMt μ' nR R B → frY μ μ' → Q (some (vI (ansBst nR R B i))) sh ν μ') : X mX10_bestStep 0 [(0, vR 265), (1, vI i)] [] sh ν μ 0 0 Q := by
  refine g_X10_bestStep_0 hW ?_
  refine mt_board hW hG HM hB HB HT fun m y1 y2 y3 y4 => ?_
  have hfr : frY μ m := ⟨fun b b0 b1 _ b3 => y4.1 b b0 b1 b3, fun j j0 j1 j2 j3 j4 j5 _ => y4.2 j j0 j1 j2 j3 j4 j5⟩
  have hk := k m y3 hfr
  obtain ⟨⟨b1, b2⟩, ⟨b3, b4⟩, -⟩ := id hB
  obtain ⟨W, hWd⟩ : ∃ W : Nat, bw B = W := ⟨Int.toNat (bw B), by omega⟩
  obtain ⟨H, hHd⟩ : ∃ H : Nat, bh B = H := ⟨Int.toNat (bh B), by omega⟩
  have hi : inB B 0 0 W H := ⟨⟨by omega, by omega⟩, by omega, by omega⟩
  have hc := inB_ok hB hi
  obtain ⟨z1, z2, -⟩ := plN_b (n := 0) hc (by decide)
  have hvt : vbT (eBd B) R nR (topB B 0) = VB (eBd B) R nR 0 0 W H 0 := by
    have := vbT_mk (R := R) (nR := nR) (T := topB B 0) (e := eBd B) (x := 0) (y := 0) (w := (W : Int)) (h := (H : Int)) (n := 0) rfl rfl hWd hHd rfl
    rw [this, Int.toNat_natCast, Int.toNat_natCast]; rfl
  have e35 : m 265 35 = W := by rw [y4.2 35 (by decide) (by decide) (by decide) (by decide) (by decide) (by decide), HB.1]; exact hWd
  have e36 : m 265 36 = H := by rw [y4.2 36 (by decide) (by decide) (by decide) (by decide) (by decide) (by decide), HB.2.1]; exact hHd
  refine g_X10_bestStep_4 hW ?_
  rw [e35, e36, y2, show plF 1 0 0 W H = plF (eI (eBd B)) (0 : Nat) (0 : Nat) W H from rfl]
  have e1 : plN (eBd B) 0 0 W H 0 = Int.toNat (plF (eI (eBd B)) (0 : Nat) (0 : Nat) W H) := rfl
  have hen := (y1 0 0 W H hi 0 (by decide)).2
  have hvn := VP_none (n := 0) hG hc (by decide)
  unfold enB at hen
  rw [e1] at hen z2
  rw [hen.1]
  refine ⟨by decide, by decide, by omega, by omega, by omega, fun q => ?_, fun q => ⟨by omega, fun q2 => ?_, fun q2 => ?_⟩⟩
  · have e0 : ansBst nR R B i = -9 := by
      unfold ansBst stepsV
      rw [hvt, hvn.1 q, cI_t rfl]
      exact cI_f (by omega)
    rw [e0] at hk; exact hk
  · have hne : VB (eBd B) R nR 0 0 W H 0 ≠ -9 := fun z => q (hvn.2 z)
    have hde := VB_decC hG hc (by decide) hne
    have hA2 := area_le (show W ≤ 20 by omega) (show H ≤ 20 by omega)
    have hst : stepsV (vbT (eBd B) R nR (topB B 0)) = VB (eBd B) R nR 0 0 W H 0 % 1048576 := by rw [hvt]; exact cI_f hne
    rw [(hen.2 hne).2] at q2
    obtain ⟨d1, d2, d3, d4⟩ := hde
    rw [w32_id (x := VB (eBd B) R nR 0 0 W H 0 % 1048576 - 1) (by omega) (by omega)] at q2
    obtain ⟨ii, rfl⟩ : ∃ nn : Nat, i = nn := ⟨Int.toNat i, by omega⟩
    have ean : ansBst nR R B (ii : Nat) = stpF (eBd B) R nR ii 1 (topB B) := by
      unfold ansBst
      rw [cI_t ⟨by omega, by rw [hst]; omega⟩, Int.toNat_natCast]
    refine g_X10_put_0 hW ?_
    rw [up_s]
    refine ⟨by decide, by decide, by decide, by decide, by decide, ?_⟩
    refine g_X10_bestStep_65 hW ?_
    rw [show Int.toNat 0 = 0 from rfl]
    have hX : pileM (up (up (up (up (up (up (up (up (up m 265 27 0) 285 0 0) 286 0 0) 287 0 0) 288 0 0) 289 0 0) 290 0 (W : Int)) 291 0 (H : Int)) 265 27 1) 1 (topB B) := by
      refine ⟨up_s .., fun j hj => ?_⟩
      rw [show j = 0 by omega]
      simp (disch := omega) only [up_s, up_a', up_k']
      exact ⟨⟨rfl, rfl, rfl⟩, rfl, rfl, hWd.symm, hHd.symm⟩
    have hF : frXb m (up (up (up (up (up (up (up (up (up m 265 27 0) 285 0 0) 286 0 0) 287 0 0) 288 0 0) 289 0 0) 290 0 (W : Int)) 291 0 (H : Int)) 265 27 1) := by
      refine ⟨fun b b0 b1 b2 => ?_, fun j j0 j1 => ?_⟩
      · simp (disch := omega) only [up_o']
      · simp (disch := omega) only [up_a', up_k']
    have e5 : m 265 35 = m 265 35 := rfl
    simp (disch := omega) only [up_a', up_k', e35, e36]
    have hbl := bst_loop (Q := Q) (ans := ansBst nR R B (ii : Nat)) (st := stepsV (vbT (eBd B) R nR (topB B 0))) (i := ii) hW hG hB (IMg_congr (y4.2 0 (by decide) (by decide) (by decide) (by decide) (by decide) (by decide)) (fun b b0 b1 => y4.1 b (by omega) (by omega) (by omega)) HM) y1 y2 (by rw [hst]; omega) (by rw [hst]; omega) (fun m' hm' => k m' (IMt_same (hm'.1 293 (by decide) (by decide) (by decide)) (hm'.1 294 (by decide) (by decide) (by decide)) (hm'.1 295 (by decide) (by decide) (by decide)) (hm'.1 296 (by decide) (by decide) (by decide)) (hm'.2 49 (by decide) (by decide)) (hm'.2 50 (by decide) (by decide)) y3) ⟨fun b b0 b1 b2 b3 => by rw [hm'.1 b b0 b1 b2]; exact y4.1 b b0 b1 b3, fun j j0 j1 j2 j3 j4 j5 j6 => by rw [hm'.2 j j0 j6]; exact y4.2 j j0 j1 j2 j3 j4 j5⟩)
    refine hbl (ii + 1) 0 1 (topB B) _ (-9) (by omega) (fun z => absurd z (by omega)) (fun d' z => ?_) hX hF
    have : d' = ii := by omega
    subst this
    exact ⟨ean, bInv_top hB (by rw [hvt]; exact hne)⟩
  · have hne : VB (eBd B) R nR 0 0 W H 0 ≠ -9 := fun z => q (hvn.2 z)
    have hde := VB_decC hG hc (by decide) hne
    have hA2 := area_le (show W ≤ 20 by omega) (show H ≤ 20 by omega)
    obtain ⟨d1, d2, d3, d4⟩ := hde
    rw [(hen.2 hne).2, w32_id (x := VB (eBd B) R nR 0 0 W H 0 % 1048576 - 1) (by omega) (by omega)] at q2
    have e0 : ansBst nR R B i = -9 := by
      unfold ansBst stepsV
      rw [hvt, cI_f hne]
      exact cI_f (by omega)
    rw [e0] at hk; exact hk
end MX
