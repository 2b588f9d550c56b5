/-! the calls, on what both sides stand for; first the class's -/
noncomputable def oFill (S : ST) (x1 x2 x3 : Int) : Int × ST := sl (acFill (sN S) x1 x2 x3) (((sN S : Nat) : Int), ((sN S + 1, snoc (sR S) (sN S) (dFill x1 x2 x3)), (sC S, sT S), S.2.2)) (refFill x1 x2 x3, S)
noncomputable def oPart (S : ST) (x1 x2 x3 : Int) : Int × ST := sl (acPart (sC S) x1 x2 x3) (((sC S + 1 : Nat) : Int), ((sN S, sR S), (sC S + 1, snoc (sT S) (sC S) (x1, x2, !(decide (x3 = 0)))), S.2.2)) (refPart x1 x2 x3, S)
noncomputable def oSplit (S : ST) (x1 x2 x3 : Int) : Int × ST := sl (acSplit (sN S) (sC S) x1 x3) (((sN S : Nat) : Int), ((sN S + 1, snoc (sR S) (sN S) (dSplit x1 x2 x3 (sC S) (sT S))), (0, sT S), S.2.2)) (refSplit (sC S) x1 x3, S)
noncomputable def oRepeat (S : ST) (x1 x2 x3 x4 x5 : Int) : Int × ST := sl (acRepeat (sN S) x1 x2 x3 x5) (((sN S : Nat) : Int), ((sN S + 1, snoc (sR S) (sN S) (dRepeat x1 x2 x3 x4 x5)), (sC S, sT S), S.2.2)) (refRepeat x1 x2 x3 x5, S)
noncomputable def oOnly (S : ST) (x1 x2 x3 x4 : Int) : Int × ST := sl (acOnly (sN S) x1 x3 x4) (1, ((sN S, upd1 (sR S) x1.toNat (dOnly (sR S x1.toNat) x2 x3 x4)), (sC S, sT S), S.2.2)) (refOnly (sN S) x1, S)
noncomputable def oClear (S : ST) : Int × ST := (((sN S : Nat) : Int), ((0, sR S), (0, fun _ => (0, 1, false)), (0, 0, 0, fun _ => 0, 0, fun _ => 0), S.2.2.2))
noncomputable def oDraw (S : ST) (x1 x2 x3 : Int) : Int × ST := sl (isSc x2 x3) (sl ((drawO (sN S) (sR S) x1 x2 x3).1 = 0) ((((drawO (sN S) (sR S) x1 x2 x3).2.2.1 : Nat) : Int), (S.1, S.2.1, frontO x2 x3 (drawO (sN S) (sR S) x1 x2 x3), sB S, 0)) (-100 - (drawO (sN S) (sR S) x1 x2 x3).1, (S.1, S.2.1, sF S, sB S, (drawO (sN S) (sR S) x1 x2 x3).2.1))) (-2, S)
noncomputable def oTake (S : ST) : Int × ST := sl (canT (sF S)) (1, (S.1, S.2.1, sF S, takeB (sF S), sK S)) (-3, S)
noncomputable def oBoard (S : ST) (w h : Int) : Int × ST := sl (isBs w h) (1, (S.1, S.2.1, sF S, newB w h, sK S)) (-2, S)
noncomputable def oPut (S : ST) (p l : Int) : Int × ST := sl (canP (sB S) p l) (ansPut (sB S) p l, (S.1, S.2.1, sF S, putB (sB S) p l, sK S)) (ansPut (sB S) p l, S)
section XO
variable {ν : Nat → Nat → Option Nat} {μ : Nat → Nat → Int} {f s : Nat} {Q : xQ} {S : ST} {x1 x2 x3 x4 x5 : Int}
theorem XS_frX {μ' : Nat → Nat → Int} {r N' c' : Nat} {R' : GR} {p' : Nat → PD} (hf : isFront f) (hr : r < 40) (h : frX r μ μ') (H : XS S f μ) (hG : IXg μ' N' R') (hc : IXc μ' c' p') : XS ((N', R'), (c', p'), S.2.2) f μ' := by
  have hf : f = 259 ∨ f = 262 := hf
  obtain ⟨-, -, H3, H4, H5, H6, H7⟩ := H
  refine ⟨hG, hc, IXf_congr (h.1 _ (by omega) (by omega) (by omega) (by omega) (by omega)) (h.1 _ (by omega) (by omega) (by omega) (by omega) (by omega)) (h.1 _ (by omega) (by omega) (by omega) (by omega) (by omega)) H3, IXb_congr (h.1 _ (by omega) (by omega) (by omega) (by omega) (by omega)) (h.1 _ (by omega) (by omega) (by omega) (by omega) (by omega)) H4, IXt_stale (fun j hj => (h.2.1 j hj).1) (h.1 _ (by omega) (by omega) (by omega) (by omega) (by omega)) (h.1 _ (by omega) (by omega) (by omega) (by omega) (by omega)) h.2.2.1 H5, IXt_stale (fun j hj => (h.2.1 j hj).2) (h.1 _ (by omega) (by omega) (by omega) (by omega) (by omega)) (h.1 _ (by omega) (by omega) (by omega) (by omega) (by omega)) h.2.2.2 H6, ?_⟩
  rw [h.1 0 (by omega) (by omega) (by omega) (by omega) (by omega)]; exact H7
theorem XS_keep {μ' : Nat → Nat → Int} (hf : isFront f) (hn : sN S ≤ 40) (h : ∀ b, ¬ (207 ≤ b ∧ b ≤ 210) → ¬ (213 ≤ b ∧ b ≤ 258) → μ' b = μ b) (h1 : IXt μ' 213 (sB S) (sR S) (sN S)) (h2 : IXt μ' 231 (sB S) (sR S) (sN S)) (H : XS S f μ) : XS S f μ' := by
  have hf : f = 259 ∨ f = 262 := hf
  obtain ⟨H1, H2, H3, H4, H5, H6, H7⟩ := H
  refine ⟨IXg_congr hn (h 1 (by omega) (by omega)) (fun b b0 b1 => h b (by omega) (by omega)) H1, IXc_congr (fun b b0 b1 => h b (by omega) (by omega)) H2, IXf_congr (h _ (by omega) (by omega)) (h _ (by omega) (by omega)) (h _ (by omega) (by omega)) H3, IXb_congr (h _ (by omega) (by omega)) (h _ (by omega) (by omega)) H4, h1, h2, ?_⟩
  rw [h 0 (by omega) (by omega)]; exact H7
theorem XS_frL {μ' : Nat → Nat → Int} (hf : isFront f) (hn : sN S ≤ 40) (h : frL μ μ') (H : XS S f μ) : XS S f μ' :=
  XS_keep hf hn (fun b b0 _ => h b (by omega) (by omega) (by omega) (by omega)) (IXt_congr (fun b b0 b1 => h b (by omega) (by omega) (by omega) (by omega)) H.2.2.2.2.1) (IXt_congr (fun b b0 b1 => h b (by omega) (by omega) (by omega) (by omega)) H.2.2.2.2.2.1) H
theorem XS_board {μ' : Nat → Nat → Int} {B' : BD} (hf : isFront f) (hn : sN S ≤ 40) (h : ∀ b, b ≠ 211 → b ≠ 212 → b ≠ 231 → μ' b = μ b) (h2 : ∀ j, j ≠ 13 → μ' 231 j = μ 231 j) (h3 : μ' 231 13 = 1) (hB : IXb μ' B') (H : XS S f μ) : XS (S.1, S.2.1, sF S, B', sK S) f μ' := by
  have hf : f = 259 ∨ f = 262 := hf
  obtain ⟨H1, H2, H3, H4, H5, H6, H7⟩ := H
  refine ⟨IXg_congr hn (h 1 (by omega) (by omega) (by omega)) (fun b b0 b1 => h b (by omega) (by omega) (by omega)) H1, IXc_congr (fun b b0 b1 => h b (by omega) (by omega) (by omega)) H2, IXf_congr (h _ (by omega) (by omega) (by omega)) (h _ (by omega) (by omega) (by omega)) (h _ (by omega) (by omega) (by omega)) H3, hB, IXt_board (IXt_congr (fun b b0 b1 => h b (by omega) (by omega) (by omega)) H5), IXt_stale h2 (h _ (by omega) (by omega) (by omega)) (h _ (by omega) (by omega) (by omega)) h3 H6, ?_⟩
  rw [h 0 (by omega) (by omega) (by omega)]; exact H7
theorem xo_fill (hW : WF SH ν f s) (hS : okS S) (H : XS S f μ) (k : kXo Q (vI (oFill S x1 x2 x3).1) (oFill S x1 x2 x3).2 μ) : X mX9_fill 0 [(0, vR 0), (1, vI x1), (2, vI x2), (3, vI x3)] [] SH ν μ 0 0 Q := by
  unfold oFill at k
  refine c_X9_fill hW hS.1.1 H.1 (fun r hr hn => ?_) (fun ha μ' g1 g2 g3 => ?_)
  · rw [sl_f hn] at k; subst hr; exact k f s ν μ hW H fun _ _ => rfl
  · rw [sl_t ha] at k
    have h40 := ha.2.2.2
    exact k f s ν μ' hW (XS_frX (wf_f hW) h40 g2 H g1 (IXc_congr g3 H.2.1)) fun b hb => g2.1 b (by omega) (by omega) (by omega) (by omega) (by omega)
theorem xo_part (hW : WF SH ν f s) (hS : okS S) (H : XS S f μ) (k : kXo Q (vI (oPart S x1 x2 x3).1) (oPart S x1 x2 x3).2 μ) : X mX9_part 0 [(0, vR 0), (1, vI x1), (2, vI x2), (3, vI x3)] [] SH ν μ 0 0 Q := by
  unfold oPart at k
  have hf : f = 259 ∨ f = 262 := wf_f hW
  refine c_X9_part hW hS.2.1 H.2.1 (fun r hr hn => ?_) (fun ha μ' g1 g2 => ?_)
  · rw [sl_f hn] at k; subst hr; exact k f s ν μ hW H fun _ _ => rfl
  · rw [sl_t ha] at k
    obtain ⟨H1, H2, H3, H4, H5, H6, H7⟩ := H
    refine k f s ν μ' hW ⟨IXg_congr hS.1.1 (g2 1 (by omega)) (fun b b0 b1 => g2 b (by omega)) H1, g1, IXf_congr (g2 _ (by omega)) (g2 _ (by omega)) (g2 _ (by omega)) H3, IXb_congr (g2 _ (by omega)) (g2 _ (by omega)) H4, IXt_congr (fun b b0 b1 => g2 b (by omega)) H5, IXt_congr (fun b b0 b1 => g2 b (by omega)) H6, ?_⟩ fun b hb => g2 b (by omega)
    rw [g2 0 (by omega)]; exact H7
theorem xo_split (hW : WF SH ν f s) (hS : okS S) (H : XS S f μ) (k : kXo Q (vI (oSplit S x1 x2 x3).1) (oSplit S x1 x2 x3).2 μ) : X mX9_split 0 [(0, vR 0), (1, vI x1), (2, vI x2), (3, vI x3)] [] SH ν μ 0 0 Q := by
  unfold oSplit at k
  refine c_X9_split hW hS.1.1 hS.2.1 H.1 H.2.1 (fun r hr hn => ?_) (fun ha μ' g1 g2 g3 => ?_)
  · rw [sl_f hn] at k; subst hr; exact k f s ν μ hW H fun _ _ => rfl
  · rw [sl_t ha] at k
    have h40 := ha.2.2.2
    exact k f s ν μ' hW (XS_frX (wf_f hW) h40 g3 H g1 g2) fun b hb => g3.1 b (by omega) (by omega) (by omega) (by omega) (by omega)
theorem xo_repeat (hW : WF SH ν f s) (hS : okS S) (H : XS S f μ) (k : kXo Q (vI (oRepeat S x1 x2 x3 x4 x5).1) (oRepeat S x1 x2 x3 x4 x5).2 μ) : X mX9_repeat 0 [(0, vR 0), (1, vI x1), (2, vI x2), (3, vI x3), (4, vI x4), (5, vI x5)] [] SH ν μ 0 0 Q := by
  unfold oRepeat at k
  refine c_X9_repeat hW hS.1.1 H.1 (fun r hr hn => ?_) (fun ha μ' g1 g2 g3 => ?_)
  · rw [sl_f hn] at k; subst hr; exact k f s ν μ hW H fun _ _ => rfl
  · rw [sl_t ha] at k
    have h40 := ha.2.2.2.2
    exact k f s ν μ' hW (XS_frX (wf_f hW) h40 g2 H g1 (IXc_congr g3 H.2.1)) fun b hb => g2.1 b (by omega) (by omega) (by omega) (by omega) (by omega)
theorem xo_only (hW : WF SH ν f s) (hS : okS S) (H : XS S f μ) (k : kXo Q (vI (oOnly S x1 x2 x3 x4).1) (oOnly S x1 x2 x3 x4).2 μ) : X mX9_only 0 [(0, vR 0), (1, vI x1), (2, vI x2), (3, vI x3), (4, vI x4)] [] SH ν μ 0 0 Q := by
  unfold oOnly at k
  have hn40 := hS.1.1
  refine c_X9_only hW hS.1.1 H.1 (fun r hr hn => ?_) (fun ha μ' g1 g2 g3 => ?_)
  · rw [sl_f hn] at k; subst hr; exact k f s ν μ hW H fun _ _ => rfl
  · rw [sl_t ha] at k
    have h40 := ha.1
    exact k f s ν μ' hW (XS_frX (wf_f hW) (by omega) g2 H g1 (IXc_congr g3 H.2.1)) fun b hb => g2.1 b (by omega) (by omega) (by omega) (by omega) (by omega)
theorem xo_clear (hW : WF SH ν f s) (hS : okS S) (H : XS S f μ) (k : kXo Q (vI (oClear S).1) (oClear S).2 μ) : X mX9_clear 0 [(0, vR 0)] [] SH ν μ 0 0 Q := by
  have hf : f = 259 ∨ f = 262 := wf_f hW
  refine c_X9_clear hW hS.1.1 H.1 fun μ' g1 g2 g3 g4 g5 g6 e2 e3 e4 e5 => ?_
  obtain ⟨H1, H2, H3, H4, H5, H6, H7⟩ := H
  have h (b : Nat) (h1 : b ≠ 1) (h2 : b ≠ 3) (h3 : b ≠ f) (h4 : b ≠ 213) (h5 : b ≠ 231) : μ' b = μ b := g3 b h1 h2 h3 h4 h5
  refine k f s ν μ' hW ⟨g1, g2, ⟨⟨e2, e3, e4, e5⟩, fun j hj => absurd hj (Nat.not_lt_zero j), fun p _ hp => absurd hp.1 (by show ¬ ((p % 20 : Nat) : Int) < 0; omega)⟩, IXb_congr (h _ (by omega) (by omega) (by omega) (by omega) (by omega)) (h _ (by omega) (by omega) (by omega) (by omega) (by omega)) H4, IXt_stale (fun j hj => (g4 j hj).1) (h _ (by omega) (by omega) (by omega) (by omega) (by omega)) (h _ (by omega) (by omega) (by omega) (by omega) (by omega)) g5 H5, IXt_stale (fun j hj => (g4 j hj).2) (h _ (by omega) (by omega) (by omega) (by omega) (by omega)) (h _ (by omega) (by omega) (by omega) (by omega) (by omega)) g6 H6, ?_⟩ fun b hb => h b (by omega) (by omega) (by omega) (by omega) (by omega)
  rw [h 0 (by omega) (by omega) (by omega) (by omega) (by omega)]; exact H7
theorem xo_rule (hW : WF SH ν f s) (hS : okS S) (H : XS S f μ) (k : kXo Q (vI (ruleF (sN S) (sR S) x1 x2)) S μ) : X mX9_rule 0 [(0, vR 0), (1, vI x1), (2, vI x2)] [] SH ν μ 0 0 Q :=
  c_X9_rule hW hS.1.1 H.1 (k f s ν μ hW H fun _ _ => rfl)
theorem xo_holds (hW : WF SH ν f s) (hS : okS S) (H : XS S f μ) (k : kXo Q (vI (ansHolds (sN S) (sR S) x1 x2 x3)) S μ) : X mX9_holds 0 [(0, vR 0), (1, vI x1), (2, vI x2), (3, vI x3)] [] SH ν μ 0 0 Q :=
  c_X9_holds hW hS.1 H.1 fun μ' g => k f s ν μ' hW (XS_frL (wf_f hW) hS.1.1 g H) fun b hb => g b (by omega) (by omega) (by omega) (by omega)
theorem xo_piece (hW : WF SH ν f s) (hS : okS S) (H : XS S f μ) (k : kXo Q (vI (ansPiece (sN S) (sR S) x1 x2 x3 x4 x5)) S μ) : X mX9_piece 0 [(0, vR 0), (1, vI x1), (2, vI x2), (3, vI x3), (4, vI x4), (5, vI x5)] [] SH ν μ 0 0 Q :=
  c_X9_piece hW hS.1 H.1 fun μ' g => k f s ν μ' hW (XS_frL (wf_f hW) hS.1.1 g H) fun b hb => g b (by omega) (by omega) (by omega) (by omega)
theorem xo_draw (hW : WF SH ν f s) (hS : okS S) (H : XS S f μ) (k : kXo Q (vI (oDraw S x1 x2 x3).1) (oDraw S x1 x2 x3).2 μ) : X mX9_draw 0 [(0, vR 0), (1, vI x1), (2, vI x2), (3, vI x3)] [] SH ν μ 0 0 Q := by
  unfold oDraw at k
  have hfs := hW.2.2.2.2.2
  obtain ⟨H1, H2, H3, H4, H5, H6, H7⟩ := id H
  have big (μ' : Nat → Nat → Int) (h : ∀ b, b ≠ 0 → ¬ (207 ≤ b ∧ b ≤ 210) → ¬ (249 ≤ b ∧ b ≤ 258) → ¬ (s ≤ b ∧ b ≤ s + 2) → μ' b = μ b) : IXg μ' (sN S) (sR S) ∧ IXc μ' (sC S) (sT S) ∧ IXb μ' (sB S) ∧ IXt μ' 213 (sB S) (sR S) (sN S) ∧ IXt μ' 231 (sB S) (sR S) (sN S) :=
    ⟨IXg_congr hS.1.1 (h 1 (by omega) (by omega) (by omega) (by omega)) (fun b b0 b1 => h b (by omega) (by omega) (by omega) (by omega)) H1, IXc_congr (fun b b0 b1 => h b (by omega) (by omega) (by omega) (by omega)) H2, IXb_congr (h _ (by omega) (by omega) (by omega) (by omega)) (h _ (by omega) (by omega) (by omega) (by omega)) H4, IXt_congr (fun b b0 b1 => h b (by omega) (by omega) (by omega) (by omega)) H5, IXt_congr (fun b b0 b1 => h b (by omega) (by omega) (by omega) (by omega)) H6⟩
  refine c_X9_draw hW hS.1 H.1 (fun hn => ?_) (fun hs h0 ν' μ' g1 g2 g3 g4 => ?_) (fun hs h0 μ' g1 g2 => ?_)
  · rw [sl_f hn] at k; exact k f s ν μ hW H fun _ _ => rfl
  · rw [sl_t hs, sl_t h0] at k
    obtain ⟨b1, b2, b4, b5, b6⟩ := big μ' g4
    exact k s f ν' μ' g1 ⟨b1, b2, g2, b4, b5, b6, g3⟩ fun b hb => g4 b (by omega) (by omega) (by omega) (by omega)
  · rw [sl_t hs, sl_f h0] at k
    obtain ⟨b1, b2, b4, b5, b6⟩ := big μ' g2
    exact k f s ν μ' hW ⟨b1, b2, IXf_congr (g2 _ (by omega) (by omega) (by omega) (by omega)) (g2 _ (by omega) (by omega) (by omega) (by omega)) (g2 _ (by omega) (by omega) (by omega) (by omega)) H3, b4, b5, b6, g1⟩ fun b hb => g2 b (by omega) (by omega) (by omega) (by omega)
theorem xo_at (hW : WF SH ν f s) (hS : okS S) (H : XS S f μ) (k : kXo Q (vI (ansAt (sF S) x1 x2)) S μ) : X mX9_at 0 [(0, vR 0), (1, vI x1), (2, vI x2)] [] SH ν μ 0 0 Q :=
  c_X9_at hW hS.2.2.1 H.2.2.1 (k f s ν μ hW H fun _ _ => rfl)
theorem xo_step (hW : WF SH ν f s) (hS : okS S) (H : XS S f μ) (k : kXo Q (vI (ansStep (sF S) x1)) S μ) : X mX9_step 0 [(0, vR 0), (1, vI x1)] [] SH ν μ 0 0 Q :=
  c_X9_step hW hS.2.2.1 H.2.2.1 (k f s ν μ hW H fun _ _ => rfl)
theorem xo_drawn (hW : WF SH ν f s) (H : XS S f μ) (k : kXo Q (vI (ansDrawn (sF S))) S μ) : X mX9_drawn 0 [(0, vR 0)] [] SH ν μ 0 0 Q :=
  c_X9_drawn hW H.2.2.1 (k f s ν μ hW H fun _ _ => rfl)
theorem xo_fault (hW : WF SH ν f s) (H : XS S f μ) (k : kXo Q (vI (sK S)) S μ) : X mX9_fault 0 [(0, vR 0)] [] SH ν μ 0 0 Q :=
  c_X9_fault hW H.2.2.2.2.2.2 (k f s ν μ hW H fun _ _ => rfl)
theorem xo_take (hW : WF SH ν f s) (hS : okS S) (H : XS S f μ) (k : kXo Q (vI (oTake S).1) (oTake S).2 μ) : X mX9_take 0 [(0, vR 0)] [] SH ν μ 0 0 Q := by
  unfold oTake at k
  refine c_X9_take hW hS.2.2.1 H.2.2.1 (fun hn => ?_) (fun ha μ' g1 g2 g3 g4 => ?_)
  · rw [sl_f hn] at k; exact k f s ν μ hW H fun _ _ => rfl
  · rw [sl_t ha] at k
    exact k f s ν μ' hW (XS_board (wf_f hW) hS.1.1 g2 g3 g4 g1 H) fun b hb => g2 b (by omega) (by omega) (by omega)
theorem xo_board (hW : WF SH ν f s) (hS : okS S) (H : XS S f μ) (k : kXo Q (vI (oBoard S x1 x2).1) (oBoard S x1 x2).2 μ) : X mX9_board 0 [(0, vR 0), (1, vI x1), (2, vI x2)] [] SH ν μ 0 0 Q := by
  unfold oBoard at k
  refine c_X9_board hW (fun hn => ?_) (fun ha μ' g1 g2 g3 g4 => ?_)
  · rw [sl_f hn] at k; exact k f s ν μ hW H fun _ _ => rfl
  · rw [sl_t ha] at k
    exact k f s ν μ' hW (XS_board (wf_f hW) hS.1.1 g2 g3 g4 g1 H) fun b hb => g2 b (by omega) (by omega) (by omega)
theorem xo_put (hW : WF SH ν f s) (hS : okS S) (H : XS S f μ) (k : kXo Q (vI (oPut S x1 x2).1) (oPut S x1 x2).2 μ) : X mX9_put 0 [(0, vR 0), (1, vI x1), (2, vI x2)] [] SH ν μ 0 0 Q := by
  unfold oPut at k
  refine c_X9_put hW H.2.2.2.1 (fun hn => ?_) (fun ha μ' g1 g2 g3 g4 => ?_)
  · rw [sl_f hn] at k; exact k f s ν μ hW H fun _ _ => rfl
  · rw [sl_t ha] at k
    exact k f s ν μ' hW (XS_board (wf_f hW) hS.1.1 (fun b b0 b1 b2 => g2 b b1 b2) g3 g4 g1 H) fun b hb => g2 b (by omega) (by omega)
theorem xs_213 {μ' : Nat → Nat → Int} (hW : WF SH ν f s) (hS : okS S) (H : XS S f μ) (h1 : IXt μ' 213 (sB S) (sR S) (sN S)) (h : frSt 213 μ μ') : XS S f μ' ∧ ∀ b, 265 ≤ b → μ' b = μ b :=
  ⟨XS_keep (wf_f hW) hS.1.1 (fun b b0 b1 => h.1 b (by omega) (by omega)) h1 (IXt_congr (fun b b0 b1 => h.1 b (by omega) (by omega)) H.2.2.2.2.2.1) H, fun b hb => h.1 b (by omega) (by omega)⟩
theorem xs_231 {μ' : Nat → Nat → Int} (hW : WF SH ν f s) (hS : okS S) (H : XS S f μ) (h1 : IXt μ' 231 (sB S) (sR S) (sN S)) (h : frSt 231 μ μ') : XS S f μ' ∧ ∀ b, 265 ≤ b → μ' b = μ b :=
  ⟨XS_keep (wf_f hW) hS.1.1 (fun b b0 b1 => h.1 b (by omega) (by omega)) (IXt_congr (fun b b0 b1 => h.1 b (by omega) (by omega)) H.2.2.2.2.1) h1 H, fun b hb => h.1 b (by omega) (by omega)⟩
theorem xo_ways (hW : WF SH ν f s) (hS : okS S) (H : XS S f μ) (k : kXo Q (vL (ansWays (sN S) (sR S) x1 x2 x3)) S μ) : X mX9_ways 0 [(0, vR 0), (1, vI x1), (2, vI x2), (3, vI x3)] [] SH ν μ 0 0 Q :=
  c_X9_ways hW hS.1 H.1 H.2.2.2.2.1 fun μ' g1 g2 => k f s ν μ' hW (xs_213 hW hS H g1 g2).1 (xs_213 hW hS H g1 g2).2
theorem xo_least (hW : WF SH ν f s) (hS : okS S) (H : XS S f μ) (k : kXo Q (vI (ansLeast (sN S) (sR S) x1 x2 x3)) S μ) : X mX9_least 0 [(0, vR 0), (1, vI x1), (2, vI x2), (3, vI x3)] [] SH ν μ 0 0 Q :=
  c_X9_least hW hS.1 H.1 H.2.2.2.2.1 fun μ' g1 g2 => k f s ν μ' hW (xs_213 hW hS H g1 g2).1 (xs_213 hW hS H g1 g2).2
theorem xo_parses (hW : WF SH ν f s) (hS : okS S) (H : XS S f μ) (k : kXo Q (vL (ansParses (sN S) (sR S) (sB S))) S μ) : X mX9_parses 0 [(0, vR 0)] [] SH ν μ 0 0 Q :=
  c_X9_parses hW hS.1 H.1 hS.2.2.2 H.2.2.2.1 H.2.2.2.2.2.1 fun μ' g1 g2 => k f s ν μ' hW (xs_231 hW hS H g1 g2).1 (xs_231 hW hS H g1 g2).2
theorem xo_best (hW : WF SH ν f s) (hS : okS S) (H : XS S f μ) (k : kXo Q (vI (ansBest (sN S) (sR S) (sB S))) S μ) : X mX9_best 0 [(0, vR 0)] [] SH ν μ 0 0 Q :=
  c_X9_best hW hS.1 H.1 hS.2.2.2 H.2.2.2.1 H.2.2.2.2.2.1 fun μ' g1 g2 => k f s ν μ' hW (xs_231 hW hS H g1 g2).1 (xs_231 hW hS H g1 g2).2
theorem xo_stands (hW : WF SH ν f s) (hS : okS S) (H : XS S f μ) (k : kXo Q (vL (ansStands (sN S) (sR S) (sB S) x1 x2 x3 x4)) S μ) : X mX9_stands 0 [(0, vR 0), (1, vI x1), (2, vI x2), (3, vI x3), (4, vI x4)] [] SH ν μ 0 0 Q :=
  c_X9_stands hW hS.1 H.1 hS.2.2.2 H.2.2.2.1 H.2.2.2.2.2.1 fun μ' g1 g2 => k f s ν μ' hW (xs_231 hW hS H g1 g2).1 (xs_231 hW hS H g1 g2).2
theorem xo_bestStep (hW : WF SH ν f s) (hS : okS S) (H : XS S f μ) (k : kXo Q (vI (ansBst (sN S) (sR S) (sB S) x1)) S μ) : X mX9_bestStep 0 [(0, vR 0), (1, vI x1)] [] SH ν μ 0 0 Q :=
  c_X9_bestStep hW hS.1 H.1 hS.2.2.2 H.2.2.2.1 H.2.2.2.2.2.1 fun μ' g1 g2 => k f s ν μ' hW (XS_keep (wf_f hW) hS.1.1 (fun b b0 b1 => g2 b (by omega) (by omega) (by omega)) (IXt_congr (fun b b0 b1 => g2 b (by omega) (by omega) (by omega)) H.2.2.2.2.1) g1 H) fun b hb => g2 b (by omega) (by omega) (by omega)
theorem xo_count (hW : WF SH ν f s) (H : XS S f μ) (k : kXo Q (vI (ansCount (sN S) (sC S) (sB S) (sF S) x1)) S μ) : X mX9_count 0 [(0, vR 0), (1, vI x1)] [] SH ν μ 0 0 Q :=
  c_X9_count hW H.1 H.2.1 H.2.2.2.1 H.2.2.1 (k f s ν μ hW H fun _ _ => rfl)
end XO
