/-! the class's pile; both paint -/
def pileX (μ : Nat → Nat → Int) (L : Nat) (P : Nat → WP) : Prop := μ 249 4 = L ∧ ∀ k, k < L → (μ 251 k = wn (P k) ∧ μ 252 k = wx (P k) ∧ μ 253 k = wy (P k)) ∧ μ 254 k = ww (P k) ∧ μ 255 k = wh (P k) ∧ μ 256 k = wk (P k) ∧ μ 257 k = wd (P k)
def curX (μ : Nat → Nat → Int) (T : WP) : Prop := (μ 249 5 = wn T ∧ μ 249 6 = wx T ∧ μ 249 7 = wy T) ∧ μ 249 8 = ww T ∧ μ 249 9 = wh T ∧ μ 249 10 = wk T ∧ μ 249 11 = wd T
def frP (μ μ' : Nat → Nat → Int) : Prop := ∀ b, b ≠ 249 → ¬ (251 ≤ b ∧ b ≤ 257) → μ' b = μ b
/-- a place lies in the rectangle -/
def inR (x y w h p : Nat) : Prop := (x ≤ p % 20 ∧ p % 20 < x + w) ∧ y ≤ p / 20 ∧ p / 20 < y + h
section XP
variable {sh : List (Nat × Nat)} {ν : Nat → Nat → Option Nat} {μ : Nat → Nat → Int} {f s : Nat} {Q : xQ} {n : Nat} {R : GR}
theorem c_X8_push (hW : WF sh ν f s) {L : Nat} {P P' : Nat → WP} {T : WP} (hL : L < 400) (H : pileX μ L P) (h1 : ∀ k, k < L → P' k = P k) (h2 : P' L = T)
    (k : ∀ μ' : Nat → Nat → Int, pileX μ' (L + 1) P' → (∀ j, j ≠ 4 → μ' 249 j = μ 249 j) → frP μ μ' → Q none sh ν μ') : X mX8_push 0 [(0, vR 249), (1, vI (wn T)), (2, vI (wx T)), (3, vI (wy T)), (4, vI (ww T)), (5, vI (wh T)), (6, vI (wk T)), (7, vI (wd T))] [] sh ν μ 0 0 Q := by
  obtain ⟨e, er⟩ := H
  refine g_X8_push_0 hW ?_
  rw [e, Int.toNat_natCast, wi1 (by omega)]
  refine ⟨fun _ => ⟨by omega, by omega, by omega, by omega, by omega, by omega, by omega, k _ ⟨up_s .., fun j hj => ?_⟩ (fun j hj => by simp (disch := omega) only [up_a', up_k']) fun b b0 b1 => by simp (disch := omega) only [up_o']⟩, fun q => absurd q (by omega)⟩
  by_cases hji : j = L
  · subst hji
    rw [h2]
    simp (disch := omega) only [up_s, up_a', up_k']
    exact ⟨⟨trivial, trivial, trivial⟩, trivial, trivial, trivial, trivial⟩
  · rw [h1 j (by omega)]
    simp (disch := omega) only [up_a', up_k']
    exact er j (by omega)
theorem c_X8_next1 (hW : WF sh ν f s) {L : Nat} {P : Nat → WP} (hL : L < 400) (H : pileX μ (L + 1) P)
    (k : ∀ μ' : Nat → Nat → Int, pileX μ' L P → curX μ' (P L) → (∀ b, b ≠ 249 → μ' b = μ b) → Q (some (vI 1)) sh ν μ') : X mX8_next 0 [(0, vR 249)] [] sh ν μ 0 0 Q := by
  obtain ⟨e, er⟩ := H
  have ew : w32 (((L + 1 : Nat) : Int) - 1) = (L : Nat) := by rw [w32_id (by omega) (by omega)]; omega
  refine g_X8_next_0 hW ?_
  rw [e, ew, Int.toNat_natCast]
  obtain ⟨⟨q1, q2, q3⟩, q4, q5, q6, q7⟩ := er L (by omega)
  refine ⟨fun _ => ⟨by omega, by omega, by omega, by omega, by omega, by omega, by omega, k _ ⟨by simp (disch := omega) only [up_s, up_k'], fun j hj => ?_⟩ ⟨⟨?_, ?_, ?_⟩, ?_, ?_, ?_, ?_⟩ fun b b0 => by simp (disch := omega) only [up_o']⟩, fun q => absurd q (by omega)⟩
  · simp (disch := omega) only [up_a']; exact er j (by omega)
  · simp (disch := omega) only [up_s, up_k']; exact q1
  · simp (disch := omega) only [up_s, up_k']; exact q2
  · simp (disch := omega) only [up_s, up_k']; exact q3
  · simp (disch := omega) only [up_s, up_k']; exact q4
  · simp (disch := omega) only [up_s, up_k']; exact q5
  · simp (disch := omega) only [up_s, up_k']; exact q6
  · simp (disch := omega) only [up_s, up_k']; exact q7
theorem c_X8_next0 (hW : WF sh ν f s) {P : Nat → WP} (H : pileX μ 0 P) (k : Q (some (vI 0)) sh ν μ) : X mX8_next 0 [(0, vR 249)] [] sh ν μ 0 0 Q := by
  refine g_X8_next_0 hW ?_
  rw [H.1]
  exact ⟨fun q => absurd q (by omega), fun _ => k⟩
theorem pileX_fr {μ' : Nat → Nat → Int} {L : Nat} {P : Nat → WP} (h : ∀ b, 249 ≤ b → b ≤ 257 → μ' b = μ b) (H : pileX μ L P) : pileX μ' L P := by
  unfold pileX at H ⊢
  rw [h 249 (by omega) (by omega), h 251 (by omega) (by omega), h 252 (by omega) (by omega), h 253 (by omega) (by omega), h 254 (by omega) (by omega), h 255 (by omega) (by omega), h 256 (by omega) (by omega), h 257 (by omega) (by omega)]
  exact H
theorem c_X8_spread (hW : WF sh ν f s) {a : Nat} (hA : isRule a) {d : RD} (hP : atR μ a d) (ho : okR d) {W H : Int} {T : WP} (hT : okW W H T) (hW2 : W ≤ 20) (hH2 : H ≤ 20) (hd : 0 ≤ wd T ∧ wd T ≤ 1000000) (hC : curX μ T) {L : Nat} {P : Nat → WP} (hX : pileX μ L P) (hh : holdsF d (ww T) (wh T)) (hN : L + pcN d (ww T) (wh T) ≤ 400)
    (k : ∀ μ' : Nat → Nat → Int, pileX μ' (L + pcN d (ww T) (wh T)) (spreadP L P d T) → (∀ b, ¬ (207 ≤ b ∧ b ≤ 210) → b ≠ 249 → ¬ (251 ≤ b ∧ b ≤ 257) → μ' b = μ b) → Q none sh ν μ') : X mX8_spread 0 [(0, vR 249), (1, vR a)] [] sh ν μ 0 0 Q := by
  have hs := okW_sc hW2 hH2 hT
  have hap : 7 ≤ a ∧ a < 207 := by obtain ⟨r, hr, rfl⟩ := hA; omega
  refine g_X8_spread_0 hW hA ?_
  obtain ⟨⟨q5, q6, q7⟩, q8, q9, q10, q11⟩ := hC
  rw [q8, q9]
  refine c_X5_lay hW hA hP ho hs.1 hs.2 (fun _ m0 g1 g2 => ?_) (fun g => absurd hh g)
  refine g_X8_spread_16 hW hA ⟨fun _ => ?_, fun q => absurd q (by decide)⟩
  have h20 := pcN_20 ho hs
  rw [g2 a (by omega) (by omega) (by omega) (by omega), atR_kind hP, g1.1, w32_id (x := ((pcN d (ww T) (wh T) : Nat) : Int) - 1) (by omega) (by omega)]
  have key := loop_up (pcN d (ww T) (wh T)) (fun (t : Nat) (m : Nat → Nat → Int) => pileX m (L + t) (spreadP L P d T) ∧ (∀ b, b ≠ 249 → ¬ (251 ≤ b ∧ b ≤ 257) → m b = m0 b) ∧ (∀ j, j ≠ 4 → m 249 j = μ 249 j)) (fun t m => X mX8_spread 35 [(0, vR 249), (2, vI (bI (rk d = 2 ∨ rk d = 4))), (3, vI ((pcN d (ww T) (wh T) : Int) - 1 - (t : Int)))] [] sh ν m 0 0 Q) ?_ ?_ 0 m0 (Nat.zero_le _) ⟨⟨?_, fun k hk => ?_⟩, fun _ _ _ => rfl, fun j _ => by rw [g2 249 (by omega) (by omega) (by omega) (by omega)]⟩
  · rw [show ((pcN d (ww T) (wh T) : Int) - 1 - ((0 : Nat) : Int)) = (pcN d (ww T) (wh T) : Int) - 1 by omega] at key
    exact key
  · rintro m ⟨t1, t2, t3⟩
    refine g_X8_spread_35 hW ⟨fun _ => k m t1 fun b b0 b1 b2 => ?_, fun q => absurd q (by omega)⟩
    rw [t2 b b1 b2]; exact g2 b (by omega) (by omega) (by omega) (by omega)
  · rintro t m ht ⟨t1, t2, t3⟩ ih
    have ei : ((pcN d (ww T) (wh T) : Int) - 1 - (t : Int)) = ((pcN d (ww T) (wh T) - 1 - t : Nat) : Int) := by omega
    have hi : pcN d (ww T) (wh T) - 1 - t < pcN d (ww T) (wh T) := by omega
    have ep : spreadP L P d T (L + t) = pieceP d T (pcN d (ww T) (wh T) - 1 - t) := by
      unfold spreadP
      rw [if_pos (by omega), show L + t - L = t by omega]
    rw [ei]
    generalize hii : pcN d (ww T) (wh T) - 1 - t = i at *
    have hk : rk d ≠ 0 := fun q => by have e : pcN d (ww T) (wh T) = 0 := if_pos q; omega
    obtain ⟨b1, b2, b3⟩ := pcB_b ho hs hh hk hi
    have bL : rLn d (ww T) (wh T) ≤ 20 := by unfold rLn isSc at *; split <;> omega
    obtain ⟨-, ⟨c1, c2, c3⟩, c4, c5, c6⟩ := hT
    obtain ⟨l1, l2, l3⟩ := g1.2 i hi
    have f208 : m 208 i = pcNm d i := by rw [t2 208 (by omega) (by omega)]; exact l1
    have f209 : m 209 i = pcB d (ww T) (wh T) i := by rw [t2 209 (by omega) (by omega)]; exact l2
    have f210 : m 210 i = pcL d (ww T) (wh T) i := by rw [t2 210 (by omega) (by omega)]; exact l3
    have h157 : ∀ m' : Nat → Nat → Int, pileX m' (L + t + 1) (spreadP L P d T) → (∀ j, j ≠ 4 → m' 249 j = m 249 j) → frP m m' → X mX8_spread 157 [(0, vR 249), (2, vI (bI (rk d = 2 ∨ rk d = 4))), (3, vI (i : Nat))] [] sh ν m' 0 0 Q := by
      intro m' u1 u2 u3
      refine g_X8_spread_157 hW ?_
      have := ih m' ⟨u1, fun b v1 v2 => by rw [u3 b v1 v2]; exact t2 b v1 v2, fun j hj => by rw [u2 j hj]; exact t3 j hj⟩
      rw [w32_id (by omega) (by omega), show ((i : Int) + -1) = (pcN d (ww T) (wh T) : Int) - 1 - ((t + 1 : Nat) : Int) by omega]
      exact this
    refine g_X8_spread_35 hW ?_
    rw [Int.toNat_natCast, f208, f209, f210, t3 6 (by omega), t3 7 (by omega), t3 8 (by omega), t3 9 (by omega), t3 10 (by omega), t3 11 (by omega), q6, q7, q8, q9, q10, q11, w32_id (x := wd T + 1) (by omega) (by omega), w32_id (x := wx T + pcB d (ww T) (wh T) i) (by
      have : rLn d (ww T) (wh T) ≤ 20 := bL
      omega) (by omega), w32_id (x := wy T + pcB d (ww T) (wh T) i) (by omega) (by omega)]
    refine ⟨fun q => absurd q (by omega), fun _ => ⟨by omega, by omega, fun q => ⟨by omega, ?_⟩, fun q => ⟨by omega, ?_⟩⟩⟩
    · have hf := bI_eq.1 q
      refine c_X8_push hW (T := (pcNm d i, wx T + pcB d (ww T) (wh T) i, wy T, pcL d (ww T) (wh T) i, wh T, subKey (wk T) i, wd T + 1)) (by omega) t1 (fun _ _ => rfl) (by rw [ep, pieceP_f hf]) fun m' u1 u2 u3 => ?_
      exact h157 m' u1 u2 u3
    · have hf := bI_ne.1 q
      refine c_X8_push hW (T := (pcNm d i, wx T, wy T + pcB d (ww T) (wh T) i, ww T, pcL d (ww T) (wh T) i, subKey (wk T) i, wd T + 1)) (by omega) t1 (fun _ _ => rfl) (by rw [ep, pieceP_t hf]) fun m' u1 u2 u3 => ?_
      refine g_X8_spread_116 hW ?_
      exact h157 m' u1 u2 u3
  · rw [g2 249 (by omega) (by omega) (by omega) (by omega)]; exact hX.1
  · have e : ∀ b, 249 ≤ b → b ≤ 257 → m0 b = μ b := fun b v1 v2 => g2 b (by omega) (by omega) (by omega) (by omega)
    rw [spreadP_lo (show k < L from hk)]
    exact (pileX_fr e hX).2 k hk
theorem c_X2_paint (hW : WF sh ν f s) {a : Nat} (hA : isFront a) {x y w h : Nat} {v : Int} (hx : x + w ≤ 20) (hy : y + h ≤ 20) (hv : 0 ≤ v ∧ v ≤ 25)
    (k : ∀ μ' : Nat → Nat → Int, (∀ p, p < 400 → (inR x y w h p → μ' (a + 1) p = v) ∧ (¬ inR x y w h p → μ' (a + 1) p = μ (a + 1) p)) → (∀ b, b ≠ a + 1 → μ' b = μ b) → Q none sh ν μ') : X mX2_paint 0 [(0, vR a), (1, vI (x : Nat)), (2, vI (y : Nat)), (3, vI (w : Nat)), (4, vI (h : Nat)), (5, vI v)] [] sh ν μ 0 0 Q := by
  refine g_X2_paint_0 hW hA ?_
  have key := loop_up (y + h) (fun (j : Nat) (m : Nat → Nat → Int) => y ≤ j ∧ (∀ p, p < 400 → (inR x y w (j - y) p → m (a + 1) p = v) ∧ (¬ inR x y w (j - y) p → m (a + 1) p = μ (a + 1) p)) ∧ ∀ b, b ≠ a + 1 → m b = μ b) (fun j m => X mX2_paint 3 [(0, vR a), (1, vI (x : Nat)), (2, vI (y : Nat)), (3, vI (w : Nat)), (4, vI (h : Nat)), (5, vI v), (6, vI (j : Nat))] [] sh ν m 0 0 Q) ?_ ?_ y μ (by omega) ⟨Nat.le_refl _, fun p _ => ⟨fun q => absurd q (by unfold inR; omega), fun _ => rfl⟩, fun _ _ => rfl⟩
  · exact key
  · rintro m ⟨g0, g1, g2⟩
    refine g_X2_paint_3 hW hA ⟨fun _ => k m (by rw [show y + h - y = h by omega] at g1; exact g1) g2, fun q => ?_⟩
    rw [w32_id (by omega) (by omega)] at q
    exact absurd q (by omega)
  · rintro j m hj ⟨g0, g1, g2⟩ ih
    have e1 : w32 ((x : Int) + w32 (20 * (j : Int))) = ((x + 20 * j : Nat) : Int) := by rw [w32_id (x := 20 * (j : Int)) (by omega) (by omega), w32_id (by omega) (by omega)]; omega
    have e2 : w32 (((x + 20 * j : Nat) : Int) + (w : Int)) = ((x + 20 * j + w : Nat) : Int) := by rw [w32_id (by omega) (by omega)]; omega
    have e3 : w8 v = v := w8_id (by omega) (by omega)
    refine g_X2_paint_3 hW hA ?_
    rw [w32_id (x := (y : Int) + (h : Int)) (by omega) (by omega), e1, e2, e3]
    refine ⟨fun q => absurd q (by omega), fun _ => ⟨fun q => absurd q (by omega), fun _ => ⟨fun q => absurd q (by omega), fun _ => ?_⟩⟩⟩
    refine c_J7_fill_eb02e hW (fa_X2_0 hW hA) (by omega) (by omega) (by omega) ?_
    refine g_X2_paint_52 hW hA ?_
    rw [wi1 (by omega), e3]
    refine ih _ ⟨by omega, fun p hp => ?_, fun b hb => ?_⟩
    · obtain ⟨p1, p2⟩ := g1 p hp
      refine ⟨fun q => ?_, fun q => ?_⟩
      · by_cases z : x + 20 * j ≤ p ∧ p < x + 20 * j + w
        · exact filA_in z.1 z.2
        · unfold filA
          rw [if_neg fun c => z c.2]
          exact p1 (by unfold inR at *; omega)
      · unfold filA
        rw [if_neg fun c => q (by unfold inR; omega)]
        exact p2 fun c => q (by unfold inR at *; omega)
    · show filA m (a + 1) (x + 20 * j) (x + 20 * j + w) v b = _
      funext i
      unfold filA
      rw [if_neg fun c => hb c.1, g2 b hb]
end XP
