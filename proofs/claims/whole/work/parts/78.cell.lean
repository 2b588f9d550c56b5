/-! a chart keeps what its knot found; it settles a cell -/
section KPC
variable {sh : List (Nat × Nat)} {ν : Nat → Nat → Option Nat} {μ : Nat → Nat → Int} {f s : Nat} {Q : xQ} {a c : Nat} {B : BD} {nR : Nat} {R : GR}
/-- what keeping leaves -/
def frKe (a c : Nat) (fr : Int) (μ μ' : Nat → Nat → Int) : Prop := (∀ b, b ≠ a + 14 → b ≠ a + 15 → b ≠ a + 16 → b ≠ a + 17 → μ' b = μ b) ∧ (∀ c', c' ≠ c → μ' (a + 14) c' = μ (a + 14) c') ∧ ∀ j, (∀ n, n < 8 → mb fr n → j ≠ c * 8 + n) → μ' (a + 15) j = μ (a + 15) j ∧ μ' (a + 16) j = μ (a + 16) j ∧ μ' (a + 17) j = μ (a + 17) j
theorem slot_i {c n N : Nat} (hc : c < N) (hN : N ≤ 2025) (hn : n < 8) : w32 (w32 ((c : Int) * 8) + (n : Int)) = ((c * 8 + n : Nat) : Int) := by
  rw [w32_id (x := (c : Int) * 8) (by omega) (by omega), w32_id (by omega) (by omega)]; omega
theorem slotne8 {c n n' : Nat} (h : n ≠ n') : c * 8 + n ≠ c * 8 + n' := by omega
theorem c_X1_keep (hW : WF sh ν f s) (hA : isChart a) (hc : c < nsp a * nsp a) {fr : Int} (hf : mk fr) {Wv Bv Pv : Nat → Int} (h1 : ∀ n, n < 8 → (mb (μ (a + 1) 10) n → Wv n = -10) ∧ (¬ mb (μ (a + 1) 10) n → μ (a + 1 + 2) n = Wv n)) (h2 : ∀ n, n < 8 → μ (a + 1 + 4) n = Bv n) (h3 : ∀ n, n < 8 → mb fr n → μ (a + 1 + 5) n = Pv n ∧ -9 ≤ Pv n ∧ Pv n ≤ 40)
    (k : ∀ μ' : Nat → Nat → Int, (∀ n, n < 8 → mb fr n → μ' (a + 15) (c * 8 + n) = Wv n ∧ μ' (a + 16) (c * 8 + n) = Bv n ∧ μ' (a + 17) (c * 8 + n) = Pv n) → μ' (a + 14) c = xor_ (μ (a + 14) c) fr → frKe a c fr μ μ' → Q none sh ν μ') : X mX1_keep 0 [(0, vR a), (1, vI (c : Nat)), (2, vI fr)] [] sh ν μ 0 0 Q := by
  have hn := nsp_b hA
  refine g_X1_keep_0 hW hA ?_
  have key := loop_up 8 (fun (i : Nat) (m : Nat → Nat → Int) => (∀ n, n < i → mb fr n → m (a + 15) (c * 8 + n) = Wv n ∧ m (a + 16) (c * 8 + n) = Bv n ∧ m (a + 17) (c * 8 + n) = Pv n) ∧ (∀ b, b ≠ a + 15 → b ≠ a + 16 → b ≠ a + 17 → m b = μ b) ∧ ∀ j, (∀ n, n < 8 → mb fr n → j ≠ c * 8 + n) → m (a + 15) j = μ (a + 15) j ∧ m (a + 16) j = μ (a + 16) j ∧ m (a + 17) j = μ (a + 17) j) (fun i m => X mX1_keep 2 [(0, vR a), (1, vI (c : Nat)), (2, vI fr), (3, vI (i : Nat))] [] sh ν m 0 0 Q) ?_ ?_ 0 μ (Nat.zero_le _) ⟨fun n q => absurd q (Nat.not_lt_zero n), fun _ _ _ _ => rfl, fun _ _ => ⟨rfl, rfl, rfl⟩⟩
  · exact key
  · rintro m ⟨g1, g2, g3⟩
    refine g_X1_keep_2 hW hA ⟨fun _ => ⟨tI hc, tI hc, ?_⟩, fun q => absurd q (by omega)⟩
    rw [Int.toNat_natCast, g2 (a + 14) (by omega) (by omega) (by omega)]
    have q5 : up m (a + 14) c (xor_ (μ (a + 14) c) fr) (a + 15) = m (a + 15) := up_o' (by omega)
    have q6 : up m (a + 14) c (xor_ (μ (a + 14) c) fr) (a + 16) = m (a + 16) := up_o' (by omega)
    have q7 : up m (a + 14) c (xor_ (μ (a + 14) c) fr) (a + 17) = m (a + 17) := up_o' (by omega)
    refine k _ (fun n hn q => by rw [q5, q6, q7]; exact g1 n hn q) (up_s ..) ⟨fun b b0 b1 b2 b3 => by rw [up_o' b0]; exact g2 b b1 b2 b3, fun c' hc' => by rw [up_k' hc', g2 (a + 14) (by omega) (by omega) (by omega)], fun j hj => by rw [q5, q6, q7]; exact g3 j hj⟩
  · rintro i m hi ⟨g1, g2, g3⟩ ih
    have hlt := slot_lt hc hi
    refine g_X1_keep_2 hW hA ⟨fun q => absurd q (by omega), fun _ => ⟨fun q => ?_, fun q => ?_⟩⟩
    · have hq : ¬ mb fr i := fun z => (mb_test hi).2 z q
      refine g_X1_keep_72 hW hA ?_
      rw [wi1 (i := i) (by omega)]
      refine ih m ⟨fun n hn z => ?_, g2, g3⟩
      by_cases e : n = i
      · rw [e] at z; exact absurd z hq
      · exact g1 n (by omega) z
    · have hq : mb fr i := (mb_test hi).1 q
      obtain ⟨p1, p2, p3⟩ := h3 i hi hq
      have st : ∀ y : Int, y = Wv i → X mX1_keep 38 [(0, vR a), (1, vI (c : Nat)), (2, vI fr), (3, vI (i : Nat)), (4, vI (w32 (w32 ((c : Int) * 8) + (i : Int))))] [vL y, vI (w32 (w32 ((c : Int) * 8) + (i : Int))), vR (a + 15)] sh ν m 0 0 Q := by
        rintro _ rfl
        refine g_X1_keep_38 hW hA (fa_X1_9 hW hA) ?_
        rw [slot_i hc hn.2.2 hi, Int.toNat_natCast, Int.toNat_natCast, up_o' (show a + 1 + 4 ≠ a + 15 by omega), up_o' (show a + 1 + 5 ≠ a + 15 by omega), g2 (a + 1 + 4) (by omega) (by omega) (by omega), g2 (a + 1 + 5) (by omega) (by omega) (by omega), h2 i hi, p1, w8_id (x := Pv i) (by omega) (by omega), w8_id (x := Pv i) (by omega) (by omega)]
        refine ⟨tI hlt, tI hi, tI hlt, tI hi, tI hlt, ?_⟩
        refine g_X1_keep_72 hW hA ?_
        rw [wi1 (i := i) (by omega)]
        refine ih (up (up (up m (a + 15) (c * 8 + i) (Wv i)) (a + 16) (c * 8 + i) (Bv i)) (a + 17) (c * 8 + i) (Pv i)) ⟨fun n hn z => ?_, fun b b0 b1 b2 => ?_, fun j hj => ?_⟩
        · by_cases e : n = i
          · subst e
            exact ⟨by rw [up_a' (by omega), up_a' (by omega), up_s], by rw [up_a' (by omega), up_s], up_s ..⟩
          · have hne := slotne8 (c := c) e
            obtain ⟨a1, a2, a3⟩ := g1 n (by omega) z
            exact ⟨by rw [up_a' (by omega), up_a' (by omega), up_k' hne]; exact a1, by rw [up_a' (by omega), up_k' hne, up_a' (by omega)]; exact a2, by rw [up_k' hne, up_a' (by omega), up_a' (by omega)]; exact a3⟩
        · rw [up_o' b2, up_o' b1, up_o' b0]; exact g2 b b0 b1 b2
        · have hne := hj i hi hq
          obtain ⟨a1, a2, a3⟩ := g3 j hj
          exact ⟨by rw [up_a' (by omega), up_a' (by omega), up_k' hne]; exact a1, by rw [up_a' (by omega), up_k' hne, up_a' (by omega)]; exact a2, by rw [up_k' hne, up_a' (by omega), up_a' (by omega)]; exact a3⟩
      refine g_X4_waysOf_0 hW (mk_knot hA) ?_
      rw [g2 (a + 1) (by omega) (by omega) (by omega), Int.toNat_natCast, g2 (a + 1 + 2) (by omega) (by omega) (by omega)]
      refine ⟨fun z => ⟨tI hi, st _ ((h1 i hi).2 fun y => (mb_test hi).2 y z)⟩, fun z => st _ ((h1 i hi).1 ((mb_test hi).1 z)).symm⟩
end KPC
section SC
variable {sh : List (Nat × Nat)} {ν : Nat → Nat → Option Nat} {μ : Nat → Nat → Int} {f s : Nat} {Q : xQ} {a c : Nat} {B : BD} {nR : Nat} {R : GR}
/-- what settling a cell leaves but for its rows -/
def frSc (a : Nat) (m m' : Nat → Nat → Int) : Prop := (∀ b, ¬ (a + 1 ≤ b ∧ b ≤ a + 10) → ¬ (207 ≤ b ∧ b ≤ 210) → m' b = m b)
theorem VP_b (hG : okG nR R) {e : EV} {x y w h n : Nat} (hc : okCell e x y w h) (hn : n < 8) : -9 ≤ VP e R nR x y w h n ∧ VP e R nR x y w h n ≤ 40 := by
  have := hG.1
  rcases VP_spec hG hc hn with ⟨-, q⟩ | ⟨-, r, q, h1, -⟩
  · omega
  · omega
theorem c_X1_settleCell (hW : WF sh ν f s) (hA : isChart a) (hG : okG nR R) (HX : IXg μ nR R) (HA : chA μ a) (hc : c < nsp a * nsp a) (HB : a = 231 → okB B ∧ IXb μ B) (hM : mk (μ (a + 13) c)) (hS : mk (μ (a + 14) c)) (hd : ∀ n, n < 8 → mb (μ (a + 13) c) n → dmC a B c)
    (hp : ∀ r, r < nR → mb (μ (a + 13) c) (nmR R r) → ¬ mb (μ (a + 14) c) (nmR R r) → holdsF (R r) (cW a c) (cH a c) → ∀ i, i < pcN (R r) (cW a c) (cH a c) → ¬ (pcN (R r) (cW a c) (cH a c) = 1 ∧ mb (μ (a + 13) c) (Int.toNat (pcNm (R r) i)) ∧ ¬ mb (μ (a + 14) c) (Int.toNat (pcNm (R r) i))) → rgt μ a B R nR (pcC a c (R r) i) (Int.toNat (pcNm (R r) i)))
    (k : ∀ μ' : Nat → Nat → Int, (∀ n, n < 8 → mb (μ (a + 13) c) n → ¬ mb (μ (a + 14) c) n → rgt μ' a B R nR c n) → mk (μ' (a + 14) c) → (∀ n, n < 8 → (mb (μ' (a + 14) c) n ↔ mb (μ (a + 14) c) n ∨ mb (μ (a + 13) c) n)) → (∀ c' n, n < 8 → (c' ≠ c ∨ mb (μ (a + 14) c) n) → rgt μ a B R nR c' n → rgt μ' a B R nR c' n) → (∀ c', c' ≠ c → μ' (a + 14) c' = μ (a + 14) c') → (∀ b, ¬ (a + 1 ≤ b ∧ b ≤ a + 10) → ¬ (207 ≤ b ∧ b ≤ 210) → ¬ (a + 14 ≤ b ∧ b ≤ a + 17) → μ' b = μ b) → Q none sh ν μ') : X mX1_settleCell 0 [(0, vR a), (1, vI (c : Nat))] [] sh ν μ 0 0 Q := by
  have hab := isChart_b hA
  have hn := nsp_b hA
  have h40 := hG.1
  obtain ⟨c1, c2, c3⟩ := cl_b hA hc
  obtain ⟨A1, A2, A3⟩ := id HA
  have hce := cell_ok (B := B) hA hc
  have hs : isSc (cW a c : Nat) (cH a c : Nat) := by
    obtain ⟨h1, h2, h3, h4, -⟩ := hce
    exact ⟨by omega, by omega⟩
  have hfr : mk (xand (μ (a + 13) c) (xxor (μ (a + 14) c) (-1))) := mk_andn hM
  have hfb : ∀ k, k < 8 → (mb (xand (μ (a + 13) c) (xxor (μ (a + 14) c) (-1))) k ↔ mb (μ (a + 13) c) k ∧ ¬ mb (μ (a + 14) c) k) := fun k hk => mb_andn _ _ (by omega)
  refine g_X1_settleCell_0 hW hA ?_
  rw [A2, tdiv_n c (nsp a) (by omega), tmod_n c (nsp a) (by omega), Int.toNat_natCast, Int.toNat_natCast, Int.toNat_natCast, (A3 _ c1).2, (A3 _ c2).2, (A3 _ c1).1, (A3 _ c2).1]
  generalize hfg : xand (μ (a + 13) c) (xxor (μ (a + 14) c) (-1)) = fr at hfr hfb
  refine ⟨tI hc, tI hc, fun q => ?_, fun q => ?_⟩
  · have hdc : dmC a B c := by
      refine Classical.byContradiction fun z => q ?_
      rw [mk_zero hfr]
      exact fun k hk y => z (hd k hk ((hfb k hk).1 y).1)
    have hKD := kd_ok (F := mb fr) hG hce
    -- the loop over the rules
    have h90 : ∀ y0 : Int, (a = 231 → ∀ l : Int, 0 ≤ l → (l = y0 ↔ allL (bl B) (cX a c) (cY a c) (cW a c) (cH a c) l)) → X mX1_settleCell 90 [(0, vR a), (1, vI (c : Nat)), (2, vI fr), (3, vI (cW a c : Nat)), (4, vI (cH a c : Nat))] [vI y0] sh ν μ 0 0 Q := by
      intro y0 hy0
      have hokL : ∀ l : Int, 0 ≤ l → (okL (evc a B) (cX a c) (cY a c) (cW a c) (cH a c) l ↔ (a = 213 ∨ l = y0)) := by
        intro l hl
        rcases hA with rfl | rfl
        · exact ⟨fun _ => Or.inl rfl, fun _ z => absurd (show false = true from z) (by decide)⟩
        · rw [hy0 rfl l hl]
          exact ⟨fun z => Or.inr (z rfl), fun z _ => z.elim (fun y => absurd y (by decide)) id⟩
      refine g_X1_settleCell_90 hW hA ?_
      refine c_X4_begin (D := KDc (evc a B) R nR (cX a c) (cY a c) (cW a c) (cH a c) (mb fr)) hW (mk_knot hA) fun m0 k1 k2 => ?_
      refine g_X1_settleCell_99 hW hA ?_
      have hfS : ∀ m m' : Nat → Nat → Int, frSc a μ m → frKn (a + 1) m m' → frSc a μ m' := fun m m' y1 y2 b b0 b1 => by rw [y2.1 b (by omega)]; exact y1 b b0 b1
      have key := loop_up nR (fun (r : Nat) (m : Nat → Nat → Int) => kInv m (a + 1) (KDc (evc a B) R nR (cX a c) (cY a c) (cW a c) (cH a c) (mb fr)) r ∧ frSc a μ m) (fun r m => X mX1_settleCell 102 [(0, vR a), (1, vI (c : Nat)), (2, vI fr), (3, vI (cW a c : Nat)), (4, vI (cH a c : Nat)), (5, vI y0), (6, vI (r : Nat))] [] sh ν m 0 0 Q) ?_ ?_ 0 m0 (Nat.zero_le _) ⟨k1, hfS μ m0 (fun _ _ _ => rfl) k2⟩
      · exact key
      · rintro m ⟨u1, u2⟩
        refine g_X1_settleCell_102 hW hA ?_
        rw [u2 1 (by omega) (by omega), HX.1]
        refine ⟨fun _ => ?_, fun q => absurd q (by omega)⟩
        refine c_X4_settle hW (mk_knot hA) hKD u1 (kd_bst hG hce) fun m2 s1 s2 s3 s4 => ?_
        refine g_X1_settleCell_284 hW hA ?_
        have u3 := hfS m m2 u2 s4
        refine c_X1_keep (Wv := wS (lK (KDc (evc a B) R nR (cX a c) (cY a c) (cW a c) (cH a c) (mb fr)) nR) (bK (KDc (evc a B) R nR (cX a c) (cY a c) (cW a c) (cH a c) (mb fr)) nR)) (Bv := kdB (evc a B) R nR (cX a c) (cY a c) (cW a c) (cH a c) (mb fr)) (Pv := VP (evc a B) R nR (cX a c) (cY a c) (cW a c) (cH a c)) hW hA hc hfr s1 s2 (fun n hn z => ⟨kd_pk hG hce hn z (s3 n hn), VP_b hG hce hn⟩) fun m3 w1 w2 w3 => ?_
        refine g_X1_settleCell_290 hW ?_
        have e14 : m2 (a + 14) = μ (a + 14) := u3 _ (by omega) (by omega)
        have e15 : m2 (a + 15) = μ (a + 15) := u3 _ (by omega) (by omega)
        have e16 : m2 (a + 16) = μ (a + 16) := u3 _ (by omega) (by omega)
        have e17 : m2 (a + 17) = μ (a + 17) := u3 _ (by omega) (by omega)
        rw [e14] at w2
        refine k m3 (fun n hn z1 z2 => ?_) (by rw [w2]; exact mk_or hS hfr) (fun n hn => ?_) (fun c' n hn z1 z2 => ?_) (fun c' hc' => by rw [w3.2.1 c' hc', e14]) fun b b0 b1 b2 => ?_
        · have hfn := (hfb n hn).2 ⟨z1, z2⟩
          obtain ⟨a1, a2, a3⟩ := w1 n hn hfn
          refine ⟨a1.trans (kd_ways hG hce hn hfn), a2.trans (cI_t hfn), a3⟩
        · rw [w2, mb_or, hfb n hn]
          constructor
          · rintro (y | y)
            · exact Or.inl y
            · exact Or.inr y.1
          · rintro (y | y)
            · exact Or.inl y
            · by_cases z : mb (μ (a + 14) c) n
              · exact Or.inl z
              · exact Or.inr ⟨y, z⟩
        · have hj : ∀ n', n' < 8 → mb fr n' → c' * 8 + n ≠ c * 8 + n' := fun n' hn' y e => by
            have e2 : c' = c ∧ n = n' := by omega
            obtain ⟨rfl, rfl⟩ := e2
            rcases z1 with z1 | z1
            · exact z1 rfl
            · exact ((hfb n hn).1 y).2 z1
          obtain ⟨a1, a2, a3⟩ := w3.2.2 _ hj
          rw [e15] at a1
          rw [e16] at a2
          rw [e17] at a3
          unfold rgt at *
          rw [a1, a2, a3]; exact z2
        · rw [w3.1 b (by omega) (by omega) (by omega) (by omega)]; exact u3 b b0 b1
      · rintro r m hr ⟨u1, u2⟩ ih
        have ho := hG.2 r hr
        have hrc := ho.2.2.1
        obtain ⟨nm1, nm2⟩ := nmR_i hG hr
        have HX' : IXg m nR R := IXg_congr h40 (u2 1 (by omega) (by omega)) (fun b b0 b1 => u2 b (by omega) (by omega)) HX
        have hP := HX'.2 r hr
        have hR : isRule (7 + 5 * r) := ⟨r, by omega, rfl⟩
        have h271 : ∀ m2 : Nat → Nat → Int, kInv m2 (a + 1) (KDc (evc a B) R nR (cX a c) (cY a c) (cW a c) (cH a c) (mb fr)) (r + 1) → frSc a μ m2 → X mX1_settleCell 271 [(0, vR a), (1, vI (c : Nat)), (2, vI fr), (3, vI (cW a c : Nat)), (4, vI (cH a c : Nat)), (5, vI y0), (6, vI (r : Nat))] [] sh ν m2 0 0 Q := by
          intro m2 z1 z2
          refine g_X1_settleCell_271 hW hA ?_
          rw [wi1 (i := r) (by omega)]
          exact ih m2 ⟨z1, z2⟩
        refine g_X1_settleCell_102 hW hA ?_
        rw [HX'.1, Int.toNat_natCast, hP.1.1, nm1]
        refine ⟨fun q => absurd q (by omega), fun _ => ⟨by omega, fun q2 => ?_, fun q2 => ?_⟩⟩
        · have hq : ¬ mb fr (nmR R r) := fun z => (mb_test nm2).2 z q2
          exact h271 m (kInv_skip hKD hr (fun z => hq z.1) (fun k _ z => hq z.1) u1) u2
        · have hq : mb fr (nmR R r) := (mb_test nm2).1 q2
          refine c_X5_lay hW hR hP ho hs.1 hs.2 (fun g m2 g1 g2 => ?_) (fun g m2 g2 => ?_)
          · have u3 : frSc a μ m2 := fun b b0 b1 => by rw [g2 b (by omega) (by omega) (by omega) (by omega)]; exact u2 b b0 b1
            have kI2 : kInv m2 (a + 1) (KDc (evc a B) R nR (cX a c) (cY a c) (cW a c) (cH a c) (mb fr)) r := by
              have e : ∀ b, a + 1 ≤ b → b ≤ a + 10 → m2 b = m b := fun b b0 b1 => g2 b (by omega) (by omega) (by omega) (by omega)
              unfold kInv kOwn kBest tieM at *
              rw [e (a + 1) (by omega) (by omega), e (a + 1 + 1) (by omega) (by omega), e (a + 1 + 4) (by omega) (by omega), e (a + 1 + 5) (by omega) (by omega), e (a + 1 + 6) (by omega) (by omega), e (a + 1 + 7) (by omega) (by omega), e (a + 1 + 8) (by omega) (by omega), e (a + 1 + 9) (by omega) (by omega)]
              exact u1
            have HX2 : IXg m2 nR R := IXg_congr h40 (u3 1 (by omega) (by omega)) (fun b b0 b1 => u3 b (by omega) (by omega)) HX
            have HA2 : chA m2 a := chA_congr (fun b hb => u3 b (by omega) (by omega)) HA
            have eR : m2 (7 + 5 * r) = m (7 + 5 * r) := g2 _ (by omega) (by omega) (by omega) (by omega)
            have rg2 : ∀ c' n, rgt μ a B R nR c' n → rgt m2 a B R nR c' n := fun c' n z => by
              unfold rgt at *
              rw [u3 (a + 15) (by omega) (by omega), u3 (a + 16) (by omega) (by omega), u3 (a + 17) (by omega) (by omega)]
              exact z
            have h262 : rk (R r) ≠ 0 → (pcN (R r) (cW a c) (cH a c) = 1 → ¬ mb fr (Int.toNat (pcNm (R r) 0))) → X mX1_settleCell 262 [(0, vR a), (1, vI (c : Nat)), (2, vI fr), (3, vI (cW a c : Nat)), (4, vI (cH a c : Nat)), (5, vI y0), (6, vI (r : Nat)), (7, vR (7 + 5 * r))] [] sh ν m2 0 0 Q := by
              intro hk hN
              refine g_X1_settleCell_262 hW hA hR ?_
              refine c_X1_gainOfParts (B := B) (F := mb fr) hW hA hG HX2 HA2 hc hr g g1 hk hq hN (fun i hi => rg2 _ _ (hp r hr ((hfb _ nm2).1 hq).1 ((hfb _ nm2).1 hq).2 g i hi fun z => ?_)) kI2 fun m3 y1 y2 => ?_
              · obtain ⟨z1, z2, z3⟩ := z
                have := hN z1
                rw [show i = 0 by omega] at z2 z3
                exact this ((hfb _ (pcNm_8 ho hk (show 0 < pcN (R r) (cW a c : Nat) (cH a c : Nat) by omega))).2 ⟨z2, z3⟩)
              · exact h271 m3 y1 (hfS m2 m3 u3 y2)
            refine g_X1_settleCell_150 hW hA hR ⟨fun _ => ?_, fun z => absurd z (by decide)⟩
            rw [eR, hP.1.2.1, hP.1.2.2.2, g1.1, hP.1.2.2.1, hP.1.1, HA2.1, nm1]
            refine ⟨fun hk => ⟨fun z => h262 hk fun y => absurd (by omega) z, fun z => ?_⟩, fun hk => ?_⟩
            · have hN : pcN (R r) (cW a c) (cH a c) = 1 := by omega
              have hnm := pcNm_b ho hk (show 0 < pcN (R r) (cW a c : Nat) (cH a c : Nat) by omega)
              obtain ⟨kk, hkk⟩ : ∃ kk : Nat, pcNm (R r) 0 = kk := ⟨Int.toNat (pcNm (R r) 0), by omega⟩
              have hk8 := kk8 hkk hnm
              rw [show Int.toNat 0 = 0 from rfl, (g1.2 0 (by omega)).1, hkk]
              refine ⟨fun y => h262 hk fun _ v => ?_, fun y => ⟨hrc, ?_⟩⟩
              · rw [hkk, Int.toNat_natCast] at v
                exact (mb_test hk8).2 v y
              · have hT : kT (KDc (evc a B) R nR (cX a c) (cY a c) (cW a c) (cH a c) (mb fr)) r kk := ⟨hq, ⟨g, hk, hN, hkk⟩, (mb_test hk8).1 y⟩
                have eX : kX (KDc (evc a B) R nR (cX a c) (cY a c) (cW a c) (cH a c) (mb fr)) r = rc (R r) * 1048576 + 1 := by show tWp R r = _; unfold tWp; omega
                rw [← eX]
                refine c_X4_tie hW (mk_knot hA) hKD hr hk8 hT kI2 fun m3 y1 y2 => ?_
                exact g_X1_settleCell_259 hW hA (h271 m3 y1 (hfS m2 m3 u3 y2))
            · have hl0 := (ho.2.2.2.2.2.1 hk).2.1
              have hN0 : pcN (R r) (cW a c) (cH a c) = 0 := if_pos hk
              have hnt : ∀ k, k < 8 → ¬ kT (KDc (evc a B) R nR (cX a c) (cY a c) (cW a c) (cH a c) (mb fr)) r k := fun k _ z => z.2.1.2.1 hk
              have h181 : okL (evc a B) (cX a c) (cY a c) (cW a c) (cH a c) (rl (R r)) → X mX1_settleCell 181 [(0, vR a), (1, vI (c : Nat)), (2, vI fr), (3, vI (cW a c : Nat)), (4, vI (cH a c : Nat)), (5, vI y0), (6, vI (r : Nat)), (7, vR (7 + 5 * r))] [] sh ν m2 0 0 Q := by
                intro hL
                have hb : bAp (evc a B) (VB (evc a B) R nR) R (cX a c) (cY a c) (cW a c) (cH a c) r := ⟨g, fun _ => hL, fun z => absurd hk z, fun i hi => absurd hi (by omega)⟩
                have hg : kG (KDc (evc a B) R nR (cX a c) (cY a c) (cW a c) (cH a c) (mb fr)) r := ⟨hq, Or.inl hb⟩
                have eW : kW (KDc (evc a B) R nR (cX a c) (cY a c) (cW a c) (cH a c) (mb fr)) r = 1 := by
                  show cI (rk (R r) ≠ 0 ∧ pcN (R r) (cW a c) (cH a c) = 1) _ (ctrW (evc a B) (VW (evc a B) R nR) (R r) (cX a c) (cY a c) (cW a c) (cH a c)) = 1
                  rw [cI_f fun z => z.1 hk]
                  unfold ctrW
                  rw [cI_t g, cI_t hk, cI_t hL]
                have eV : kV (KDc (evc a B) R nR (cX a c) (cY a c) (cW a c) (cH a c) (mb fr)) r = rc (R r) * 1048576 + 1 := by
                  show cI (rk (R r) ≠ 0 ∧ pcN (R r) (cW a c) (cH a c) = 1) _ (bWp (VB (evc a B) R nR) R (cX a c) (cY a c) (cW a c) (cH a c) r) = _
                  rw [cI_f fun z => z.1 hk]
                  unfold bWp
                  rw [hN0]
                  show rc (R r) * 1048576 + 1 + 0 = _
                  omega
                refine g_X1_settleCell_181 hW hA hR ?_
                rw [eR, hP.1.2.2.1, hP.1.1, nm1, ← eV, ← eW]
                refine ⟨hrc, ?_⟩
                refine c_X4_gain hW (mk_knot hA) hKD hr hg kI2 fun m3 y1 y2 => ?_
                exact g_X1_settleCell_201 hW hA (h271 m3 y1 (hfS m2 m3 u3 y2))
              have hskip : ¬ okL (evc a B) (cX a c) (cY a c) (cW a c) (cH a c) (rl (R r)) → X mX1_settleCell 271 [(0, vR a), (1, vI (c : Nat)), (2, vI fr), (3, vI (cW a c : Nat)), (4, vI (cH a c : Nat)), (5, vI y0), (6, vI (r : Nat))] [] sh ν m2 0 0 Q := by
                intro hL
                refine h271 m2 (kInv_skip hKD hr (fun z => ?_) hnt kI2) u3
                rcases z.2 with y | ⟨k, hk8, y, -⟩
                · exact hL (y.2.1 hk)
                · exact y.2.1 hk
              have hiff := hokL (rl (R r)) hl0
              refine ⟨fun z => h181 (hiff.2 (Or.inl ?_)), fun z => ⟨fun y => hskip fun v => ?_, fun y => h181 (hiff.2 (Or.inr y))⟩⟩
              · by_cases e : a = 213
                · exact e
                · rw [if_neg e] at z; exact absurd z (by decide)
              · rcases hiff.1 v with v | v
                · rw [if_pos v] at z; exact absurd rfl z
                · exact y v
          · have u3 : frSc a μ m2 := fun b b0 b1 => by rw [g2 b (by omega) (by omega) (by omega) (by omega)]; exact u2 b b0 b1
            have kI2 : kInv m2 (a + 1) (KDc (evc a B) R nR (cX a c) (cY a c) (cW a c) (cH a c) (mb fr)) r := by
              have e : ∀ b, a + 1 ≤ b → b ≤ a + 10 → m2 b = m b := fun b b0 b1 => g2 b (by omega) (by omega) (by omega) (by omega)
              unfold kInv kOwn kBest tieM at *
              rw [e (a + 1) (by omega) (by omega), e (a + 1 + 1) (by omega) (by omega), e (a + 1 + 4) (by omega) (by omega), e (a + 1 + 5) (by omega) (by omega), e (a + 1 + 6) (by omega) (by omega), e (a + 1 + 7) (by omega) (by omega), e (a + 1 + 8) (by omega) (by omega), e (a + 1 + 9) (by omega) (by omega)]
              exact u1
            refine g_X1_settleCell_150 hW hA hR ⟨fun z => absurd rfl z, fun _ => h271 m2 (kInv_skip hKD hr (fun z => ?_) (fun k _ z => g z.2.1.1) kI2) u3⟩
            rcases z.2 with y | ⟨k, hk8, y, -⟩
            · exact g y.1
            · exact g y.1
    refine ⟨by omega, tI c1, by omega, tI c2, fun z => ?_, fun z => ⟨by omega, tI c1, by omega, tI c2, ?_⟩⟩
    · rw [A1] at z
      refine h90 (-9) fun e => ?_
      rw [e, if_neg (by decide)] at z
      exact absurd z (by decide)
    · rw [A1] at z
      have e : a = 231 := by
        rcases hA with e | e
        · rw [e] at z; exact absurd rfl z
        · exact e
      obtain ⟨hB, hIB⟩ := HB e
      refine c_X0_soleLetter hW hB hIB (hdc e) fun v hv => ?_
      exact g_X1_settleCell_85 hW hA (h90 v fun _ => hv)
  · have hz : ∀ n, n < 8 → mb (μ (a + 13) c) n → mb (μ (a + 14) c) n := fun n hn y => by
      refine Classical.byContradiction fun z => ?_
      exact (mk_zero hfr).1 q n hn ((hfb n hn).2 ⟨y, z⟩)
    exact k μ (fun n hn z1 z2 => absurd (hz n hn z1) z2) hS (fun n hn => ⟨Or.inl, fun z => z.elim id (hz n hn)⟩) (fun _ _ _ _ z => z) (fun _ _ => rfl) fun _ _ _ _ => rfl
end SC
