/-! the calls, on what both sides stand for; the reference's -/
section MO
variable {ν : Nat → Nat → Option Nat} {μ : Nat → Nat → Int} {f s : Nat} {Q : xQ} {S : ST} {x1 x2 x3 x4 x5 : Int}
theorem MS_frM {μ' : Nat → Nat → Int} {N' c' : Nat} {R' : GR} {p' : Nat → PD} (h : frM μ μ') (H : MS S μ) (hG : IMg μ' N' R') (hc : IMc μ' c' p') : MS ((N', R'), (c', p'), S.2.2) μ' := by
  obtain ⟨-, -, H3, H4, H5, H6⟩ := H
  refine ⟨hG, hc, IMf_congr (fun j j0 j1 => h.2.1 j (by omega) (by omega) (by omega) (by omega)) (h.1 _ (by omega)) (h.1 _ (by omega)) H3, IMb_congr (h.2.1 _ (by omega) (by omega) (by omega) (by omega)) (h.2.1 _ (by omega) (by omega) (by omega) (by omega)) (h.1 _ (by omega)) H4, IMt_stale (h.1 _ (by omega)) (h.1 _ (by omega)) (h.1 _ (by omega)) h.2.2.1 h.2.2.2 H5, ?_⟩
  rw [h.2.1 26 (by omega) (by omega) (by omega) (by omega)]; exact H6
theorem MS_frB {μ' : Nat → Nat → Int} {B' : BD} (h : frB μ μ') (h5 : μ' 265 50 = 0) (hB : IMb μ' B') (H : MS S μ) : MS (S.1, S.2.1, sF S, B', sK S) μ' := by
  obtain ⟨H1, H2, H3, H4, H5, H6⟩ := H
  refine ⟨IMg_congr (h.2 _ (by omega) (by omega) (by omega)) (fun b b0 b1 => h.1 b (by omega) (by omega)) H1, IMc_congr (h.2 _ (by omega) (by omega) (by omega)) (fun b b0 b1 => h.1 b (by omega) (by omega)) H2, IMf_congr (fun j j0 j1 => h.2 j (by omega) (by omega) (by omega)) (h.1 _ (by omega) (by omega)) (h.1 _ (by omega) (by omega)) H3, hB, IMt_board (h.1 _ (by omega) (by omega)) (h.1 _ (by omega) (by omega)) (h.1 _ (by omega) (by omega)) (h.1 _ (by omega) (by omega)) (h.2 _ (by omega) (by omega) (by omega)) h5 H5, ?_⟩
  rw [h.2 26 (by omega) (by omega) (by omega)]; exact H6
theorem MS_frY {μ' : Nat → Nat → Int} (h : frY μ μ') (hT : IMt μ' (sN S) (sR S) (sB S)) (H : MS S μ) : MS S μ' := by
  obtain ⟨H1, H2, H3, H4, H5, H6⟩ := H
  refine ⟨IMg_congr (h.2 _ (by omega) (by omega) (by omega) (by omega) (by omega) (by omega) (by omega)) (fun b b0 b1 => h.1 b (by omega) (by omega) (by omega) (by omega)) H1, IMc_congr (h.2 _ (by omega) (by omega) (by omega) (by omega) (by omega) (by omega) (by omega)) (fun b b0 b1 => h.1 b (by omega) (by omega) (by omega) (by omega)) H2, IMf_congr (fun j j0 j1 => h.2 j (by omega) (by omega) (by omega) (by omega) (by omega) (by omega) (by omega)) (h.1 _ (by omega) (by omega) (by omega) (by omega)) (h.1 _ (by omega) (by omega) (by omega) (by omega)) H3, IMb_congr (h.2 _ (by omega) (by omega) (by omega) (by omega) (by omega) (by omega) (by omega)) (h.2 _ (by omega) (by omega) (by omega) (by omega) (by omega) (by omega) (by omega)) (h.1 _ (by omega) (by omega) (by omega) (by omega)) H4, hT, ?_⟩
  rw [h.2 26 (by omega) (by omega) (by omega) (by omega) (by omega) (by omega) (by omega)]; exact H6
theorem MS_frR {μ' : Nat → Nat → Int} (h : frR μ μ') (hT : IMt μ' (sN S) (sR S) (sB S)) (H : MS S μ) : MS S μ' :=
  MS_frY ⟨fun b b0 b1 _ b3 => h.1 b b0 b1 b3, fun j j0 j1 j2 j3 j4 j5 _ => h.2 j j0 j1 j2 j3 j4 j5⟩ hT H
theorem MS_frK {μ' : Nat → Nat → Int} (h : frK μ μ') (H : MS S μ) : MS S μ' :=
  MS_frR ⟨fun b b0 b1 _ => h.1 b b0 (by omega) (by omega) (by omega), fun j j0 _ _ _ _ _ => h.2 j j0⟩ (IMt_same (h.1 _ (by omega) (by omega) (by omega) (by omega)) (h.1 _ (by omega) (by omega) (by omega) (by omega)) (h.1 _ (by omega) (by omega) (by omega) (by omega)) (h.1 _ (by omega) (by omega) (by omega) (by omega)) (h.2 _ (by omega)) (h.2 _ (by omega)) H.2.2.2.2.1) H
theorem mo_fill (hW : WF SH ν f s) (hS : okS S) (H : MS S μ) (k : kMo Q (vI (oFill S x1 x2 x3).1) (oFill S x1 x2 x3).2 ν μ) : X mX10_fill 0 [(0, vR 265), (1, vI x1), (2, vI x2), (3, vI x3)] [] SH ν μ 0 0 Q := by
  unfold oFill at k
  refine c_X10_fill hW hS.1.1 H.1 (fun hn => ?_) (fun ha μ' g1 g2 g3 => ?_)
  · rw [sl_f hn] at k; exact k μ H fun _ _ => rfl
  · rw [sl_t ha] at k
    exact k μ' (MS_frM g2 H g1 (IMc_congr g3.1 (fun b b0 _ => g3.2 b b0) H.2.1)) fun b hb => g2.1 b (by omega)
theorem mo_part (hW : WF SH ν f s) (hS : okS S) (H : MS S μ) (h3 : x3 = 0 ∨ x3 = 1) (k : kMo Q (vI (oPart S x1 x2 x3).1) (oPart S x1 x2 x3).2 ν μ) : X mX10_part 0 [(0, vR 265), (1, vI x1), (2, vI x2), (3, vI x3)] [] SH ν μ 0 0 Q := by
  unfold oPart at k
  refine c_X10_part hW h3 hS.2.1 H.2.1 (fun hn => ?_) (fun ha μ' g1 g2 g3 g4 => ?_)
  · rw [sl_f hn] at k; exact k μ H fun _ _ => rfl
  · rw [sl_t ha] at k
    obtain ⟨H1, H2, H3, H4, H5, H6⟩ := H
    refine k μ' ⟨IMg_congr (g4 _ (by omega)) g3 H1, g1, IMf_congr (fun j j0 j1 => g4 j (by omega)) (g2 _ (by omega)) (g2 _ (by omega)) H3, IMb_congr (g4 _ (by omega)) (g4 _ (by omega)) (g2 _ (by omega)) H4, IMt_same (g2 _ (by omega)) (g2 _ (by omega)) (g2 _ (by omega)) (g2 _ (by omega)) (g4 _ (by omega)) (g4 _ (by omega)) H5, ?_⟩ fun b hb => g2 b (by omega)
    rw [g4 26 (by omega)]; exact H6
theorem mo_split (hW : WF SH ν f s) (hS : okS S) (H : MS S μ) (k : kMo Q (vI (oSplit S x1 x2 x3).1) (oSplit S x1 x2 x3).2 ν μ) : X mX10_split 0 [(0, vR 265), (1, vI x1), (2, vI x2), (3, vI x3)] [] SH ν μ 0 0 Q := by
  unfold oSplit at k
  refine c_X10_split hW hS.1 hS.2.1 H.1 H.2.1 (fun hn => ?_) (fun ha μ' g1 g2 g3 => ?_)
  · rw [sl_f hn] at k; exact k μ H fun _ _ => rfl
  · rw [sl_t ha] at k
    exact k μ' (MS_frM g3 H g1 g2) fun b hb => g3.1 b (by omega)
theorem mo_repeat (hW : WF SH ν f s) (hS : okS S) (H : MS S μ) (k : kMo Q (vI (oRepeat S x1 x2 x3 x4 x5).1) (oRepeat S x1 x2 x3 x4 x5).2 ν μ) : X mX10_repeat 0 [(0, vR 265), (1, vI x1), (2, vI x2), (3, vI x3), (4, vI x4), (5, vI x5)] [] SH ν μ 0 0 Q := by
  unfold oRepeat at k
  refine c_X10_repeat hW hS.1 H.1 (fun hn => ?_) (fun ha μ' g1 g2 g3 => ?_)
  · rw [sl_f hn] at k; exact k μ H fun _ _ => rfl
  · rw [sl_t ha] at k
    exact k μ' (MS_frM g2 H g1 (IMc_congr g3.1 (fun b b0 _ => g3.2 b b0) H.2.1)) fun b hb => g2.1 b (by omega)
theorem mo_only (hW : WF SH ν f s) (hS : okS S) (H : MS S μ) (k : kMo Q (vI (oOnly S x1 x2 x3 x4).1) (oOnly S x1 x2 x3 x4).2 ν μ) : X mX10_only 0 [(0, vR 265), (1, vI x1), (2, vI x2), (3, vI x3), (4, vI x4)] [] SH ν μ 0 0 Q := by
  unfold oOnly at k
  refine c_X10_only hW hS.1 H.1 (fun hn => ?_) (fun ha μ' g1 g2 g3 => ?_)
  · rw [sl_f hn] at k; exact k μ H fun _ _ => rfl
  · rw [sl_t ha] at k
    exact k μ' (MS_frM g2 H g1 (IMc_congr g3.1 (fun b b0 _ => g3.2 b b0) H.2.1)) fun b hb => g2.1 b (by omega)
theorem mo_clear (hW : WF SH ν f s) (H : MS S μ) (k : kMo Q (vI (oClear S).1) (oClear S).2 ν μ) : X mX10_clear 0 [(0, vR 265)] [] SH ν μ 0 0 Q := by
  refine c_X10_clear hW H.1 fun μ' g1 g2 g3 g4 e18 e19 e20 e49 e50 => ?_
  obtain ⟨H1, H2, H3, H4, H5, H6⟩ := H
  refine k μ' ⟨g1, g2, ⟨⟨e18, e19, e20, fun q => absurd rfl q⟩, fun j hj => absurd hj (Nat.not_lt_zero j), fun p _ hp => absurd hp.1 (by show ¬ ((p % 20 : Nat) : Int) < 0; omega)⟩, IMb_congr (g4 _ (by omega) (by omega) (by omega) (by omega) (by omega) (by omega) (by omega)) (g4 _ (by omega) (by omega) (by omega) (by omega) (by omega) (by omega) (by omega)) (g3 _ (by omega)) H4, IMt_stale (g3 _ (by omega)) (g3 _ (by omega)) (g3 _ (by omega)) e49 e50 H5, ?_⟩ fun b hb => g3 b (by omega)
  rw [g4 26 (by omega) (by omega) (by omega) (by omega) (by omega) (by omega) (by omega)]; exact H6
theorem mo_rule (hW : WF SH ν f s) (hS : okS S) (H : MS S μ) (k : kMo Q (vI (ruleF (sN S) (sR S) x1 x2)) S ν μ) : X mX10_rule 0 [(0, vR 265), (1, vI x1), (2, vI x2)] [] SH ν μ 0 0 Q :=
  c_X10_rule hW hS.1.1 H.1 (k μ H fun _ _ => rfl)
theorem mo_holds (hW : WF SH ν f s) (hS : okS S) (H : MS S μ) (k : kMo Q (vI (ansHolds (sN S) (sR S) x1 x2 x3)) S ν μ) : X mX10_holds 0 [(0, vR 265), (1, vI x1), (2, vI x2), (3, vI x3)] [] SH ν μ 0 0 Q :=
  c_X10_holds hW hS.1 H.1 fun μ' g => k μ' (MS_frK g H) fun b hb => g.1 b (by omega) (by omega) (by omega) (by omega)
theorem mo_piece (hW : WF SH ν f s) (hS : okS S) (H : MS S μ) (k : kMo Q (vI (ansPiece (sN S) (sR S) x1 x2 x3 x4 x5)) S ν μ) : X mX10_piece 0 [(0, vR 265), (1, vI x1), (2, vI x2), (3, vI x3), (4, vI x4), (5, vI x5)] [] SH ν μ 0 0 Q :=
  c_X10_piece hW hS.1 H.1 fun μ' g => k μ' (MS_frK g H) fun b hb => g.1 b (by omega) (by omega) (by omega) (by omega)
theorem mo_draw (hW : WF SH ν f s) (hS : okS S) (H : MS S μ) (k : kMo Q (vI (oDraw S x1 x2 x3).1) (oDraw S x1 x2 x3).2 ν μ) : X mX10_draw 0 [(0, vR 265), (1, vI x1), (2, vI x2), (3, vI x3)] [] SH ν μ 0 0 Q := by
  unfold oDraw at k
  obtain ⟨H1, H2, H3, H4, H5, H6⟩ := id H
  have big (μ' : Nat → Nat → Int) (h : ∀ b, b ≠ 265 → ¬ (278 ≤ b ∧ b ≤ 291) → μ' b = μ b) (h2 : ∀ j, j ≠ 14 → j ≠ 18 → j ≠ 19 → j ≠ 20 → j ≠ 22 → j ≠ 26 → j ≠ 27 → μ' 265 j = μ 265 j) : IMg μ' (sN S) (sR S) ∧ IMc μ' (sC S) (sT S) ∧ IMb μ' (sB S) ∧ IMt μ' (sN S) (sR S) (sB S) :=
    ⟨IMg_congr (h2 _ (by omega) (by omega) (by omega) (by omega) (by omega) (by omega) (by omega)) (fun b b0 b1 => h b (by omega) (by omega)) H1, IMc_congr (h2 _ (by omega) (by omega) (by omega) (by omega) (by omega) (by omega) (by omega)) (fun b b0 b1 => h b (by omega) (by omega)) H2, IMb_congr (h2 _ (by omega) (by omega) (by omega) (by omega) (by omega) (by omega) (by omega)) (h2 _ (by omega) (by omega) (by omega) (by omega) (by omega) (by omega) (by omega)) (h _ (by omega) (by omega)) H4, IMt_same (h _ (by omega) (by omega)) (h _ (by omega) (by omega)) (h _ (by omega) (by omega)) (h _ (by omega) (by omega)) (h2 _ (by omega) (by omega) (by omega) (by omega) (by omega) (by omega) (by omega)) (h2 _ (by omega) (by omega) (by omega) (by omega) (by omega) (by omega) (by omega)) H5⟩
  refine c_X10_draw hW hS.1 H.1 (fun hn => ?_) (fun hs h0 μ' g1 g2 g3 g4 => ?_) (fun hs h0 μ' g1 g2 g3 => ?_)
  · rw [sl_f hn] at k; exact k μ H fun _ _ => rfl
  · rw [sl_t hs, sl_t h0] at k
    obtain ⟨b1, b2, b4, b5⟩ := big μ' g3 g4
    exact k μ' ⟨b1, b2, g1, b4, b5, g2⟩ fun b hb => g3 b (by omega) (by omega)
  · rw [sl_t hs, sl_f h0] at k
    obtain ⟨b1, b2, b4, b5⟩ := big μ' (fun b b0 b1 => g2 b b0 (by omega) (by omega)) (fun j j0 _ _ _ _ j5 j6 => g3 j j0 j5 j6)
    exact k μ' ⟨b1, b2, IMf_congr (fun j j0 j1 => g3 j (by omega) (by omega) (by omega)) (g2 _ (by omega) (by omega) (by omega)) (g2 _ (by omega) (by omega) (by omega)) H3, b4, b5, g1⟩ fun b hb => g2 b (by omega) (by omega) (by omega)
theorem mo_at (hW : WF SH ν f s) (hS : okS S) (H : MS S μ) (k : kMo Q (vI (ansAt (sF S) x1 x2)) S ν μ) : X mX10_at 0 [(0, vR 265), (1, vI x1), (2, vI x2)] [] SH ν μ 0 0 Q :=
  c_X10_at hW hS.2.2.1 H.2.2.1 (k μ H fun _ _ => rfl)
theorem mo_step (hW : WF SH ν f s) (hS : okS S) (H : MS S μ) (k : kMo Q (vI (ansStep (sF S) x1)) S ν μ) : X mX10_step 0 [(0, vR 265), (1, vI x1)] [] SH ν μ 0 0 Q :=
  c_X10_step hW hS.2.2.1 H.2.2.1 (k μ H fun _ _ => rfl)
theorem mo_drawn (hW : WF SH ν f s) (H : MS S μ) (k : kMo Q (vI (ansDrawn (sF S))) S ν μ) : X mX10_drawn 0 [(0, vR 265)] [] SH ν μ 0 0 Q :=
  c_X10_drawn hW H.2.2.1 (k μ H fun _ _ => rfl)
theorem mo_fault (hW : WF SH ν f s) (H : MS S μ) (k : kMo Q (vI (sK S)) S ν μ) : X mX10_fault 0 [(0, vR 265)] [] SH ν μ 0 0 Q :=
  c_X10_fault hW H.2.2.2.2.2 (k μ H fun _ _ => rfl)
theorem mo_take (hW : WF SH ν f s) (hS : okS S) (H : MS S μ) (k : kMo Q (vI (oTake S).1) (oTake S).2 ν μ) : X mX10_take 0 [(0, vR 265)] [] SH ν μ 0 0 Q := by
  unfold oTake at k
  refine c_X10_take hW hS.2.2.1 H.2.2.1 (fun hn => ?_) (fun ha μ' g1 g2 g3 => ?_)
  · rw [sl_f hn] at k; exact k μ H fun _ _ => rfl
  · rw [sl_t ha] at k
    exact k μ' (MS_frB g2 g3 g1 H) fun b hb => g2.1 b (by omega) (by omega)
theorem mo_board (hW : WF SH ν f s) (H : MS S μ) (k : kMo Q (vI (oBoard S x1 x2).1) (oBoard S x1 x2).2 ν μ) : X mX10_board 0 [(0, vR 265), (1, vI x1), (2, vI x2)] [] SH ν μ 0 0 Q := by
  unfold oBoard at k
  refine c_X10_board hW (fun hn => ?_) (fun ha μ' g1 g2 g3 => ?_)
  · rw [sl_f hn] at k; exact k μ H fun _ _ => rfl
  · rw [sl_t ha] at k
    exact k μ' (MS_frB g2 g3 g1 H) fun b hb => g2.1 b (by omega) (by omega)
theorem mo_put (hW : WF SH ν f s) (H : MS S μ) (k : kMo Q (vI (oPut S x1 x2).1) (oPut S x1 x2).2 ν μ) : X mX10_put_ 0 [(0, vR 265), (1, vI x1), (2, vI x2)] [] SH ν μ 0 0 Q := by
  unfold oPut at k
  refine c_X10_put_ hW H.2.2.2.1 (fun hn => ?_) (fun ha μ' g1 g2 g3 => ?_)
  · rw [sl_f hn] at k; exact k μ H fun _ _ => rfl
  · rw [sl_t ha] at k
    exact k μ' (MS_frB g2 g3 g1 H) fun b hb => g2.1 b (by omega) (by omega)
theorem mo_ways (hW : WF SH ν f s) (hS : okS S) (H : MS S μ) (k : kMo Q (vL (ansWays (sN S) (sR S) x1 x2 x3)) S ν μ) : X mX10_ways 0 [(0, vR 265), (1, vI x1), (2, vI x2), (3, vI x3)] [] SH ν μ 0 0 Q :=
  c_X10_ways hW hS.1 H.1 hS.2.2.2 H.2.2.2.2.1 fun μ' g1 g2 => k μ' (MS_frR g2 g1 H) fun b hb => g2.1 b (by omega) (by omega) (by omega)
theorem mo_least (hW : WF SH ν f s) (hS : okS S) (H : MS S μ) (k : kMo Q (vI (ansLeast (sN S) (sR S) x1 x2 x3)) S ν μ) : X mX10_least 0 [(0, vR 265), (1, vI x1), (2, vI x2), (3, vI x3)] [] SH ν μ 0 0 Q :=
  c_X10_least hW hS.1 H.1 hS.2.2.2 H.2.2.2.2.1 fun μ' g1 g2 => k μ' (MS_frR g2 g1 H) fun b hb => g2.1 b (by omega) (by omega) (by omega)
theorem mo_parses (hW : WF SH ν f s) (hS : okS S) (H : MS S μ) (k : kMo Q (vL (ansParses (sN S) (sR S) (sB S))) S ν μ) : X mX10_parses 0 [(0, vR 265)] [] SH ν μ 0 0 Q :=
  c_X10_parses hW hS.1 H.1 hS.2.2.2 H.2.2.2.1 H.2.2.2.2.1 fun μ' g1 g2 => k μ' (MS_frR g2 g1 H) fun b hb => g2.1 b (by omega) (by omega) (by omega)
theorem mo_best (hW : WF SH ν f s) (hS : okS S) (H : MS S μ) (k : kMo Q (vI (ansBest (sN S) (sR S) (sB S))) S ν μ) : X mX10_best 0 [(0, vR 265)] [] SH ν μ 0 0 Q :=
  c_X10_best hW hS.1 H.1 hS.2.2.2 H.2.2.2.1 H.2.2.2.2.1 fun μ' g1 g2 => k μ' (MS_frR g2 g1 H) fun b hb => g2.1 b (by omega) (by omega) (by omega)
theorem mo_stands (hW : WF SH ν f s) (hS : okS S) (H : MS S μ) (k : kMo Q (vL (ansStands (sN S) (sR S) (sB S) x1 x2 x3 x4)) S ν μ) : X mX10_stands 0 [(0, vR 265), (1, vI x1), (2, vI x2), (3, vI x3), (4, vI x4)] [] SH ν μ 0 0 Q :=
  c_X10_stands hW hS.1 H.1 hS.2.2.2 H.2.2.2.1 H.2.2.2.2.1 fun μ' g1 g2 => k μ' (MS_frR g2 g1 H) fun b hb => g2.1 b (by omega) (by omega) (by omega)
theorem mo_bestStep (hW : WF SH ν f s) (hS : okS S) (H : MS S μ) (k : kMo Q (vI (ansBst (sN S) (sR S) (sB S) x1)) S ν μ) : X mX10_bestStep 0 [(0, vR 265), (1, vI x1)] [] SH ν μ 0 0 Q :=
  c_X10_bestStep hW hS.1 H.1 hS.2.2.2 H.2.2.2.1 H.2.2.2.2.1 fun μ' g1 g2 => k μ' (MS_frY g2 g1 H) fun b hb => g2.1 b (by omega) (by omega) (by omega) (by omega)
theorem mo_count (hW : WF SH ν f s) (H : MS S μ) (k : kMo Q (vI (ansCount (sN S) (sC S) (sB S) (sF S) x1)) S ν μ) : X mX10_count_ 0 [(0, vR 265), (1, vI x1)] [] SH ν μ 0 0 Q :=
  c_X10_count_ hW H.1 H.2.1 H.2.2.2.1 H.2.2.1 (k μ H fun _ _ => rfl)
end MO
