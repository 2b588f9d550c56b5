/-! the reference's pile; it paints -/
def pileM (μ : Nat → Nat → Int) (L : Nat) (P : Nat → WP) : Prop := μ 265 27 = L ∧ ∀ k, k < L → (μ 285 k = wn (P k) ∧ μ 286 k = wk (P k) ∧ μ 287 k = wd (P k)) ∧ μ 288 k = wx (P k) ∧ μ 289 k = wy (P k) ∧ μ 290 k = ww (P k) ∧ μ 291 k = wh (P k)
/-- what putting pieces leaves -/
def frQ (μ μ' : Nat → Nat → Int) : Prop := (∀ b, b ≠ 265 → ¬ (285 ≤ b ∧ b ≤ 291) → μ' b = μ b) ∧ ∀ j, j ≠ 27 → μ' 265 j = μ 265 j
section MP
variable {sh : List (Nat × Nat)} {ν : Nat → Nat → Option Nat} {μ : Nat → Nat → Int} {f s : Nat} {Q : xQ} {n : Nat} {R : GR}
theorem pileM_fr {μ' : Nat → Nat → Int} {L : Nat} {P : Nat → WP} (h0 : μ' 265 27 = μ 265 27) (h : ∀ b, 285 ≤ b → b ≤ 291 → μ' b = μ b) (H : pileM μ L P) : pileM μ' L P := by
  unfold pileM at H ⊢
  rw [h0, h 285 (by omega) (by omega), h 286 (by omega) (by omega), h 287 (by omega) (by omega), h 288 (by omega) (by omega), h 289 (by omega) (by omega), h 290 (by omega) (by omega), h 291 (by omega) (by omega)]
  exact H
theorem c_X10_putPieces (hW : WF sh ν f s) {r : Nat} (hr : r < 40) {d : RD} (hP : atM μ r d) (ho : okR d) {W H : Int} {T : WP} (hT : okW W H T) (hW2 : W ≤ 20) (hH2 : H ≤ 20) (hd : 0 ≤ wd T ∧ wd T ≤ 1000000) (hl : laidM μ d (ww T) (wh T)) {L : Nat} {P : Nat → WP} (hX : pileM μ L P) (hh : holdsF d (ww T) (wh T)) (hN : L + pcN d (ww T) (wh T) ≤ 600)
    (k : ∀ μ' : Nat → Nat → Int, pileM μ' (L + pcN d (ww T) (wh T)) (spreadP L P d T) → frQ μ μ' → Q none sh ν μ') : X mX10_putPieces 0 [(0, vR 265), (1, vI (r : Nat)), (2, vI (wk T)), (3, vI (wd T)), (4, vI (wx T)), (5, vI (wy T)), (6, vI (ww T)), (7, vI (wh T))] [] sh ν μ 0 0 Q := by
  have hs := okW_sc hW2 hH2 hT
  have h20 := pcN_20 ho hs
  refine g_X10_putPieces_0 hW ?_
  rw [Int.toNat_natCast, hP.1.2.1, hl.1, w32_id (x := ((pcN d (ww T) (wh T) : Nat) : Int) - 1) (by omega) (by omega)]
  refine ⟨by omega, ?_⟩
  have key := loop_up (pcN d (ww T) (wh T)) (fun (t : Nat) (m : Nat → Nat → Int) => pileM m (L + t) (spreadP L P d T) ∧ frQ μ m) (fun t m => X mX10_putPieces 15 [(0, vR 265), (2, vI (wk T)), (3, vI (wd T)), (4, vI (wx T)), (5, vI (wy T)), (6, vI (ww T)), (7, vI (wh T)), (8, vI (bI (rk d = 2 ∨ rk d = 4))), (9, vI ((pcN d (ww T) (wh T) : Int) - 1 - (t : Int)))] [] sh ν m 0 0 Q) ?_ ?_ 0 μ (Nat.zero_le _) ⟨⟨hX.1, fun k hk => ?_⟩, fun _ _ _ => rfl, fun _ _ => rfl⟩
  · rw [show ((pcN d (ww T) (wh T) : Int) - 1 - ((0 : Nat) : Int)) = (pcN d (ww T) (wh T) : Int) - 1 by omega] at key
    exact key
  · rintro m ⟨t1, t2⟩
    exact g_X10_putPieces_15 hW ⟨fun _ => k m t1 t2, fun q => absurd q (by omega)⟩
  · rintro t m ht ⟨t1, t2, t3⟩ ih
    have ei : ((pcN d (ww T) (wh T) : Int) - 1 - (t : Int)) = ((pcN d (ww T) (wh T) - 1 - t : Nat) : Int) := by omega
    have hi : pcN d (ww T) (wh T) - 1 - t < pcN d (ww T) (wh T) := by omega
    have ep : spreadP L P d T (L + t) = pieceP d T (pcN d (ww T) (wh T) - 1 - t) := by
      unfold spreadP
      rw [if_pos (by omega), show L + t - L = t by omega]
    rw [ei]
    generalize hii : pcN d (ww T) (wh T) - 1 - t = i at *
    have hk : rk d ≠ 0 := fun q => by have e : pcN d (ww T) (wh T) = 0 := if_pos q; omega
    obtain ⟨b1, b2, b3⟩ := pcB_b ho hs hh hk hi
    have bL : rLn d (ww T) (wh T) ≤ 20 := by unfold rLn isSc at *; split <;> omega
    obtain ⟨-, ⟨c1, c2, c3⟩, c4, c5, c6⟩ := hT
    obtain ⟨l1, l2, l3⟩ := hl.2 i hi
    have f280 : m 280 i = pcNm d i := by rw [t2 280 (by omega) (by omega)]; exact l1
    have f278 : m 278 i = pcB d (ww T) (wh T) i := by rw [t2 278 (by omega) (by omega)]; exact l2
    have f279 : m 279 i = pcL d (ww T) (wh T) i := by rw [t2 279 (by omega) (by omega)]; exact l3
    have e27 : m 265 27 = ((L + t : Nat) : Int) := t1.1
    have h80 : ∀ pn pk pd px py : Int, pn = wn (pieceP d T i) → pk = wk (pieceP d T i) → pd = wd (pieceP d T i) → px = wx (pieceP d T i) → py = wy (pieceP d T i) → X mX10_putPieces 80 [(0, vR 265), (2, vI (wk T)), (3, vI (wd T)), (4, vI (wx T)), (5, vI (wy T)), (6, vI (ww T)), (7, vI (wh T)), (8, vI (bI (rk d = 2 ∨ rk d = 4))), (9, vI (i : Nat))] [vI py, vI px, vI pd, vI pk, vI pn, vR 265] sh ν m 0 0 Q := by
      rintro _ _ _ _ _ rfl rfl rfl rfl rfl
      refine g_X10_putPieces_80 hW ?_
      refine g_X10_put_0 hW ?_
      rw [e27, Int.toNat_natCast]
      refine ⟨by omega, by omega, by omega, by omega, by omega, ?_⟩
      have hb : ∀ b, ¬ (285 ≤ b ∧ b ≤ 291) → up (up (up (up (up m 285 (L + t) (wn (pieceP d T i))) 286 (L + t) (wk (pieceP d T i))) 287 (L + t) (wd (pieceP d T i))) 288 (L + t) (wx (pieceP d T i))) 289 (L + t) (wy (pieceP d T i)) b = m b := fun b b0 => by simp (disch := omega) only [up_o']
      have h134 : ∀ (pw ph : Int) (m' : Nat → Nat → Int), pw = ww (pieceP d T i) → ph = wh (pieceP d T i) → m' = up (up (up (up (up (up m 285 (L + t) (wn (pieceP d T i))) 286 (L + t) (wk (pieceP d T i))) 287 (L + t) (wd (pieceP d T i))) 288 (L + t) (wx (pieceP d T i))) 289 (L + t) (wy (pieceP d T i))) 290 (L + t) pw → X mX10_putPieces 134 [(0, vR 265), (2, vI (wk T)), (3, vI (wd T)), (4, vI (wx T)), (5, vI (wy T)), (6, vI (ww T)), (7, vI (wh T)), (8, vI (bI (rk d = 2 ∨ rk d = 4))), (9, vI (i : Nat))] [vI ph, vI ((L + t : Nat) : Int), vR 291] sh ν m' 0 0 Q := by
        rintro _ _ _ rfl rfl rfl
        refine g_X10_putPieces_134 hW (fa_X10_34 hW) ?_
        rw [Int.toNat_natCast]
        simp (disch := omega) only [up_a']
        rw [e27, wi1 (by omega), w32_id (x := (i : Int) + -1) (by omega) (by omega), show ((i : Int) + -1) = (pcN d (ww T) (wh T) : Int) - 1 - ((t + 1 : Nat) : Int) by omega]
        refine ⟨by omega, ih _ ⟨⟨up_s .., fun j hj => ?_⟩, fun b b0 b1 => ?_, fun j hj => ?_⟩⟩
        · by_cases hji : j = L + t
          · subst hji
            rw [ep]
            simp (disch := omega) only [up_s, up_a', up_k']
            exact ⟨⟨trivial, trivial, trivial⟩, trivial, trivial, trivial, trivial⟩
          · simp (disch := omega) only [up_a', up_k']
            exact t1.2 j (by omega)
        · simp (disch := omega) only [up_o']; exact t2 b b0 b1
        · simp (disch := omega) only [up_a', up_k']; exact t3 j hj
      refine g_X10_putPieces_83 hW ?_
      rw [hb 279 (by omega), hb 265 (by omega), Int.toNat_natCast, f279, e27]
      refine ⟨fun q => ⟨by omega, ?_⟩, fun q => ?_⟩
      · have hf := bI_eq.1 q
        refine g_X10_putPieces_108 hW (fa_X10_33 hW) ?_
        rw [Int.toNat_natCast]
        simp (disch := omega) only [up_a']
        rw [e27]
        refine ⟨by omega, fun _ => ?_, fun q2 => absurd q q2⟩
        exact h134 _ _ _ (by rw [pieceP_f hf]) (by rw [pieceP_f hf]) rfl
      · have hf := bI_ne.1 q
        refine g_X10_putPieces_108 hW (fa_X10_33 hW) ?_
        rw [Int.toNat_natCast, Int.toNat_natCast]
        simp (disch := omega) only [up_a']
        rw [e27, f279]
        refine ⟨by omega, fun q2 => absurd q2 q, fun _ => ⟨by omega, ?_⟩⟩
        exact h134 _ _ _ (by rw [pieceP_t hf]) (by rw [pieceP_t hf]) rfl
    refine g_X10_putPieces_15 hW ?_
    rw [Int.toNat_natCast, f280, f278, w32_id (x := wd T + 1) (by omega) (by omega)]
    refine ⟨fun q => absurd q (by omega), fun _ => ⟨by omega, fun q => ⟨by omega, ?_⟩, fun q => ?_⟩⟩
    · have hf := bI_eq.1 q
      have eL : rLn d (ww T) (wh T) = ww T := if_neg hf
      refine g_X10_putPieces_60 hW ⟨fun _ => ?_, fun q2 => absurd q q2⟩
      refine h80 _ _ _ _ _ (by rw [pieceP_f hf]) (by rw [pieceP_f hf]; rfl) (by rw [pieceP_f hf]) ?_ (by rw [pieceP_f hf])
      rw [pieceP_f hf, w32_id (by omega) (by omega)]
    · have hf := bI_ne.1 q
      have eL : rLn d (ww T) (wh T) = wh T := if_pos hf
      refine g_X10_putPieces_60 hW ⟨fun q2 => absurd q2 q, fun _ => ⟨by omega, ?_⟩⟩
      rw [Int.toNat_natCast, f278]
      refine h80 _ _ _ _ _ (by rw [pieceP_t hf]) (by rw [pieceP_t hf]; rfl) (by rw [pieceP_t hf]) (by rw [pieceP_t hf]) ?_
      rw [pieceP_t hf, w32_id (by omega) (by omega)]
  · rw [spreadP_lo (show k < L from hk)]; exact hX.2 k hk
theorem c_X10_fillDraft (hW : WF sh ν f s) {x y w h : Nat} {v : Int} (hx : x + w ≤ 20) (hy : y + h ≤ 20)
    (k : ∀ μ' : Nat → Nat → Int, (∀ p, p < 400 → (inR x y w h p → μ' 283 p = v) ∧ (¬ inR x y w h p → μ' 283 p = μ 283 p)) → (∀ b, b ≠ 283 → μ' b = μ b) → Q none sh ν μ') : X mX10_fillDraft 0 [(0, vR 265), (1, vI (x : Nat)), (2, vI (y : Nat)), (3, vI (w : Nat)), (4, vI (h : Nat)), (5, vI v)] [] sh ν μ 0 0 Q := by
  refine g_X10_fillDraft_0 hW ?_
  have key := loop_up (y + h) (fun (j : Nat) (m : Nat → Nat → Int) => y ≤ j ∧ (∀ p, p < 400 → (inR x y w (j - y) p → m 283 p = v) ∧ (¬ inR x y w (j - y) p → m 283 p = μ 283 p)) ∧ ∀ b, b ≠ 283 → m b = μ b) (fun j m => X mX10_fillDraft 3 [(0, vR 265), (1, vI (x : Nat)), (2, vI (y : Nat)), (3, vI (w : Nat)), (4, vI (h : Nat)), (5, vI v), (6, vI (j : Nat))] [] sh ν m 0 0 Q) ?_ ?_ y μ (by omega) ⟨Nat.le_refl _, fun p _ => ⟨fun q => absurd q (by unfold inR; omega), fun _ => rfl⟩, fun _ _ => rfl⟩
  · exact key
  · rintro m ⟨g0, g1, g2⟩
    refine g_X10_fillDraft_3 hW ⟨fun _ => k m (by rw [show y + h - y = h by omega] at g1; exact g1) g2, fun q => ?_⟩
    rw [w32_id (by omega) (by omega)] at q
    exact absurd q (by omega)
  · rintro j m hj ⟨g0, g1, g2⟩ ih
    have key2 := loop_up (x + w) (fun (i : Nat) (m' : Nat → Nat → Int) => x ≤ i ∧ (∀ p, p < 400 → (p / 20 = j ∧ x ≤ p % 20 ∧ p % 20 < i → m' 283 p = v) ∧ (¬ (p / 20 = j ∧ x ≤ p % 20 ∧ p % 20 < i) → m' 283 p = m 283 p)) ∧ ∀ b, b ≠ 283 → m' b = m b) (fun i m' => X mX10_fillDraft 15 [(0, vR 265), (1, vI (x : Nat)), (2, vI (y : Nat)), (3, vI (w : Nat)), (4, vI (h : Nat)), (5, vI v), (6, vI (j : Nat)), (7, vI (i : Nat))] [] sh ν m' 0 0 Q) ?_ ?_ x m (by omega) ⟨Nat.le_refl _, fun p _ => ⟨fun q => absurd q (by omega), fun _ => rfl⟩, fun _ _ => rfl⟩
    · refine g_X10_fillDraft_3 hW ?_
      rw [w32_id (x := (y : Int) + (h : Int)) (by omega) (by omega)]
      exact ⟨fun q => absurd q (by omega), fun _ => key2⟩
    · rintro m' ⟨u0, u1, u2⟩
      refine g_X10_fillDraft_15 hW ?_
      rw [w32_id (x := (x : Int) + (w : Int)) (by omega) (by omega), wi1 (i := j) (by omega)]
      refine ⟨fun _ => ih m' ⟨by omega, fun p hp => ?_, fun b hb => by rw [u2 b hb]; exact g2 b hb⟩, fun q => absurd q (by omega)⟩
      obtain ⟨p1, p2⟩ := g1 p hp
      obtain ⟨p3, p4⟩ := u1 p hp
      refine ⟨fun q => ?_, fun q => ?_⟩
      · by_cases z : p / 20 = j ∧ x ≤ p % 20 ∧ p % 20 < x + w
        · exact p3 z
        · rw [p4 z]; exact p1 (by unfold inR at *; omega)
      · rw [p4 fun z => q (by unfold inR; omega)]; exact p2 fun z => q (by unfold inR at *; omega)
    · rintro i m' hi ⟨u0, u1, u2⟩ ih2
      have e1 : w32 (w32 (20 * (j : Int)) + (i : Int)) = ((20 * j + i : Nat) : Int) := by rw [w32_id (x := 20 * (j : Int)) (by omega) (by omega), w32_id (by omega) (by omega)]; omega
      refine g_X10_fillDraft_15 hW ?_
      rw [w32_id (x := (x : Int) + (w : Int)) (by omega) (by omega), wi1 (i := i) (by omega), e1, Int.toNat_natCast]
      refine ⟨fun q => absurd q (by omega), fun _ => ⟨by omega, ih2 _ ⟨by omega, fun p hp => ?_, fun b hb => by rw [up_o' hb]; exact u2 b hb⟩⟩⟩
      obtain ⟨p3, p4⟩ := u1 p hp
      by_cases e : p = 20 * j + i
      · subst e
        rw [up_s]
        exact ⟨fun _ => rfl, fun q => absurd (by omega) q⟩
      · rw [up_k' e]
        exact ⟨fun q => p3 (by omega), fun q => p4 fun z => q (by omega)⟩
end MP
