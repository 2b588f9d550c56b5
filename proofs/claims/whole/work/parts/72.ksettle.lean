/-! the knot of the class settles -/
def attK (D : KD) (nR : Nat) (B : Nat → Int) (n r : Nat) : Prop := r < nR ∧ kn D r = n ∧ ((kG D r ∧ B n = kV D r) ∨ ∃ k, k < 8 ∧ kT D r k ∧ B k ≠ -9 ∧ B n = kX D r + B k)
def pkK (D : KD) (nR : Nat) (B : Nat → Int) (n : Nat) (v : Int) : Prop := (B n = -9 ∧ v = -9) ∨ (B n ≠ -9 ∧ ∃ r : Nat, v = r ∧ attK D nR B n r ∧ ∀ r', attK D nR B n r' → r ≤ r')
section KP
variable {sh : List (Nat × Nat)} {ν : Nat → Nat → Option Nat} {μ : Nat → Nat → Int} {f s : Nat} {Q : xQ} {p nt : Nat} {D : KD} {nR : Nat} {T : TT} {B : Nat → Int}
theorem c_X4_pick (hW : WF sh ν f s) (hp : isKnot p) (hD : okKD D nR) (hM : tieM μ p nt T) (hT : okTT D nR nt T) (hB : bstK D nR B) (hw : ∀ n, n < 8 → μ (p + 4) n = B n)
    (hi : ∀ n, n < 8 → (B n = -9 → μ (p + 5) n = -9) ∧ (B n ≠ -9 → (μ (p + 5) n = 40 ∨ ∃ r : Nat, μ (p + 5) n = r ∧ attK D nR B n r) ∧ ∀ r : Nat, r < nR → kG D r → kn D r = n → B n = kV D r → μ (p + 5) n ≤ r))
    (k : ∀ μ' : Nat → Nat → Int, (∀ n, n < 8 → pkK D nR B n (μ' (p + 5) n)) → (∀ c, c ≠ p + 5 → μ' c = μ c) → Q none sh ν μ') : X mX4_pickAmongTies 0 [(0, vR p)] [] sh ν μ 0 0 Q := by
  obtain ⟨m1, m2⟩ := hM
  obtain ⟨t1, t2, t3, t4⟩ := hT
  obtain ⟨b1, b2, b3, b4⟩ := hB
  have h40 := hD.1
  have hT8 : ∀ t, t < nt → (T t).1 < 8 ∧ (T t).2.2.1 < 8 := fun t ht => ⟨by rw [← (t2 t ht).2.2.1]; exact (hD.2 _ (t2 t ht).1).1, (t2 t ht).2.2.2.2⟩
  refine g_X4_pickAmongTies_0 hW hp ?_
  have key := loop_up nt (fun (i : Nat) (m : Nat → Nat → Int) => (∀ n, n < 8 → (B n = -9 → m (p + 5) n = -9) ∧ (B n ≠ -9 → (m (p + 5) n = 40 ∨ ∃ r : Nat, m (p + 5) n = r ∧ attK D nR B n r) ∧ (∀ r : Nat, r < nR → kG D r → kn D r = n → B n = kV D r → m (p + 5) n ≤ r) ∧ ∀ j, j < i → (T j).1 = n → B (T j).2.2.1 ≠ -9 → B n = (T j).2.2.2 + B (T j).2.2.1 → m (p + 5) n ≤ ((T j).2.1 : Nat))) ∧ ∀ c, c ≠ p + 5 → m c = μ c) (fun i m => X mX4_pickAmongTies 2 [(0, vR p), (1, vI (i : Nat))] [] sh ν m 0 0 Q) ?_ ?_ 0 μ (Nat.zero_le _) ⟨fun n hn => ⟨(hi n hn).1, fun q => ⟨((hi n hn).2 q).1, ((hi n hn).2 q).2, fun j hj => absurd hj (Nat.not_lt_zero j)⟩⟩, fun _ _ => rfl⟩
  · exact key
  · rintro m ⟨u1, u2⟩
    refine g_X4_pickAmongTies_2 hW hp ?_
    rw [u2 p (by omega), m1]
    refine ⟨fun _ => k m (fun n hn => ?_) u2, fun q => absurd q (by omega)⟩
    obtain ⟨a1, a2⟩ := u1 n hn
    by_cases q : B n = -9
    · exact Or.inl ⟨q, a1 q⟩
    · obtain ⟨c1, c2, c3⟩ := a2 q
      have hle : ∀ r', attK D nR B n r' → m (p + 5) n ≤ (r' : Nat) := by
        rintro r' ⟨d1, d2, ⟨e1, e2⟩ | ⟨k, hk, e1, e2, e3⟩⟩
        · exact c2 r' d1 e1 d2 e2
        · obtain ⟨j, j1, j2, j3⟩ := t3 r' k d1 hk e1
          obtain ⟨f1, f2, f3, f4, f5⟩ := t2 j j1
          have := c3 j j1 (by rw [← f3, j2]; exact d2) (by rw [j3]; exact e2) (by rw [f4, j2, j3]; exact e3)
          rw [j2] at this; exact this
      refine Or.inr ⟨q, ?_⟩
      rcases c1 with c1 | ⟨r, r1, r2⟩
      · obtain ⟨r, r1, r2, r3⟩ := b4 n hn q
        have := hle r ⟨r1, r2, r3⟩
        omega
      · exact ⟨r, r1, r2, fun r' hr' => by have := hle r' hr'; omega⟩
  · rintro i m hi2 ⟨u1, u2⟩ ih
    obtain ⟨a1, a2, a3, a4⟩ := m2 i hi2
    obtain ⟨d1, d2⟩ := hT8 i hi2
    obtain ⟨c1, c2, c3, c4, c5⟩ := t2 i hi2
    have hx := (hD.2 _ c1).2.2.1
    have f9 : m p 9 = nt := by rw [u2 p (by omega)]; exact m1
    have f6 : m (p + 6) i = (T i).1 := by rw [u2 (p + 6) (by omega)]; exact a1
    have f7 : m (p + 7) i = (T i).2.1 := by rw [u2 (p + 7) (by omega)]; exact a2
    have f8 : m (p + 8) i = (T i).2.2.1 := by rw [u2 (p + 8) (by omega)]; exact a3
    have f10 : m (p + 9) i = (T i).2.2.2 := by rw [u2 (p + 9) (by omega)]; exact a4
    have f4 : ∀ n, n < 8 → m (p + 4) n = B n := fun n hn => by rw [u2 (p + 4) (by omega)]; exact hw n hn
    have bk := b1 _ d2
    have bn := b1 _ d1
    have no : (B (T i).2.2.1 = -9 ∨ B (T i).1 ≠ (T i).2.2.2 + B (T i).2.2.1 ∨ m (p + 5) (T i).1 ≤ ((T i).2.1 : Nat)) → X mX4_pickAmongTies 80 [(0, vR p), (1, vI (i : Nat))] [] sh ν m 0 0 Q := by
      intro q
      refine g_X4_pickAmongTies_80 hW hp ?_
      rw [wi1 (i := i) (by omega)]
      refine ih m ⟨fun n hn => ⟨(u1 n hn).1, fun z => ⟨((u1 n hn).2 z).1, ((u1 n hn).2 z).2.1, fun j hj y1 y2 y3 => ?_⟩⟩, u2⟩
      by_cases e : j = i
      · subst e
        subst y1
        rcases q with q | q | q
        · exact absurd q y2
        · exact absurd y3 q
        · exact q
      · exact ((u1 n hn).2 z).2.2 j (by omega) y1 y2 y3
    refine g_X4_pickAmongTies_2 hW hp ?_
    rw [f9, Int.toNat_natCast, f6, f7, f8, f10, Int.toNat_natCast, Int.toNat_natCast, f4 _ d1, f4 _ d2, w64_id (x := B (T i).2.2.1 + (T i).2.2.2) (by omega) (by omega)]
    refine ⟨fun q => absurd q (by omega), fun _ => ⟨by omega, by omega, tI d2, fun q => no (Or.inl (by omega)), fun q => ⟨by omega, tI d1, fun q2 => no (Or.inr (Or.inl (by omega))), fun q2 => ⟨by omega, tI d1, fun q3 => no (Or.inr (Or.inr q3)), fun q3 => ⟨by omega, tI d1, ?_⟩⟩⟩⟩⟩
    have hbk : B (T i).2.2.1 ≠ -9 := by omega
    have hbn : B (T i).1 ≠ -9 := by omega
    refine g_X4_pickAmongTies_80 hW hp ?_
    rw [wi1 (i := i) (by omega)]
    refine ih _ ⟨fun n hn => ?_, fun c hc => by rw [up_o' hc]; exact u2 c hc⟩
    by_cases e : n = (T i).1
    · subst e
      rw [up_s]
      refine ⟨fun z => absurd z hbn, fun z => ⟨Or.inr ⟨(T i).2.1, rfl, c1, c3, Or.inr ⟨(T i).2.2.1, d2, c2, hbk, by omega⟩⟩, fun r y1 y2 y3 y4 => ?_, fun j hj y1 y2 y3 => ?_⟩⟩
      · have := ((u1 _ hn).2 z).2.1 r y1 y2 y3 y4
        omega
      · by_cases e : j = i
        · rw [e]; exact Int.le_refl _
        · have := ((u1 _ hn).2 z).2.2 j (by omega) y1 y2 y3
          omega
    · rw [up_k' e]
      refine ⟨(u1 n hn).1, fun z => ⟨((u1 n hn).2 z).1, ((u1 n hn).2 z).2.1, fun j hj y1 y2 y3 => ?_⟩⟩
      by_cases e2 : j = i
      · subst e2; exact absurd y1.symm e
      · exact ((u1 n hn).2 z).2.2 j (by omega) y1 y2 y3
theorem c_X4_settle (hW : WF sh ν f s) (hp : isKnot p) (hD : okKD D nR) (H : kInv μ p D nR) (hB : bstK D nR B)
    (k : ∀ μ' : Nat → Nat → Int, (∀ n, n < 8 → (mb (μ' p 10) n → wS (lK D nR) (bK D nR) n = -10) ∧ (¬ mb (μ' p 10) n → μ' (p + 2) n = wS (lK D nR) (bK D nR) n)) → (∀ n, n < 8 → μ' (p + 4) n = B n) → (∀ n, n < 8 → pkK D nR B n (μ' (p + 5) n)) → frKn p μ μ' → Q none sh ν μ') : X mX4_settle 0 [(0, vR p)] [] sh ν μ 0 0 Q := by
  obtain ⟨⟨m0, h1⟩, h2, nt, T, h3, h4⟩ := H
  have h40 := hD.1
  have okb : ∀ n, n < 8 → wOK (bK D nR n) := fun n _ => bK_ok hD n nR (Nat.le_refl _)
  have hT8 : ∀ t, t < nt → (T t).1 < 8 ∧ (T t).2.2.1 < 8 := fun t ht => ⟨by rw [← (h4.2.1 t ht).2.2.1]; exact (hD.2 _ (h4.2.1 t ht).1).1, (h4.2.1 t ht).2.2.2.2⟩
  have hL0 : ∀ n k, k < 8 → 0 ≤ lK D nR n k := fun n k hk => by rw [← h4.2.2.2 n k hk]; exact (cntT_b T nt n k).1
  have hLp := fun n k (hk : k < 8) => lK_pos h4 n hk
  have hend : ∀ n, n < 8 → (mb (μ p 10) n ↔ bK D nR n = -10) := fun n hn => by
    obtain ⟨a1, a2, a3⟩ := h1 n hn
    refine ⟨a2, fun z => Classical.byContradiction fun q => ?_⟩
    have := a3 q
    omega
  have hwt : ∀ n, n < 8 → (0 ≤ μ (p + 4) n ↔ bK D nR n ≠ 0) := fun n hn => by
    rw [bK_ne hD n nR (Nat.le_refl _)]
    rcases h2 n hn with ⟨a1, a2, a3⟩ | ⟨r0, a1, a2, a3, a4, a5, a6⟩
    · rw [a1]
      exact ⟨fun q => absurd q (by decide), fun ⟨r', b1, b2, b3⟩ => absurd b3 (a3 r' b1 b2)⟩
    · have := (hD.2 r0 a1).2.1 a2
      rw [a4]
      exact ⟨fun _ => ⟨r0, a1, a3, a2⟩, fun _ => by omega⟩
  -- all leads are of names
  have hM9 : μ p 9 = nt := h3.1
  have hfr0 : frKn p μ (cpy μ (p + 1) (p + 2) 8) := ⟨fun b hb => cpy_o _ (by omega), fun j _ _ => by rw [cpy_o _ (by omega)]⟩
  have c2 : ∀ j, j < 8 → cpy μ (p + 1) (p + 2) 8 (p + 2) j = μ (p + 1) j := fun j hj => if_pos ⟨rfl, hj⟩
  have c3 : ∀ c, c ≠ p + 2 → cpy μ (p + 1) (p + 2) 8 c = μ c := fun c hc => cpy_o _ hc
  refine g_X4_settle_0 hW hp ?_
  rw [hM9]
  generalize cpy μ (p + 1) (p + 2) 8 = m1 at hfr0 c2 c3
  refine ⟨fun q => ?_, fun q => ?_⟩
  · -- no ties
    have hnt : nt = 0 := by omega
    subst hnt
    have hL1 : ∀ n k, k < 8 → lK D nR n k = 0 := fun n k hk => (h4.2.2.2 n k hk).symm
    have hE : ∀ n, endP (lK D nR) (bK D nR) n → bK D nR n = -10 := by
      rintro n ⟨t, m, hw, hg⟩
      have hw0 : n = m := by
        cases t with
        | zero => exact hw
        | succ t =>
          obtain ⟨k, hk, hl, -⟩ := hw
          have := hL1 n k hk; omega
      rw [hw0]
      rcases hg with hg | ⟨-, c, k, hk, hl, -⟩
      · exact hg
      · have := hL1 m k hk; omega
    have hWS : ∀ n, n < 8 → wS (lK D nR) (bK D nR) n = bK D nR n := fun n hn => by
      by_cases z : endP (lK D nR) (bK D nR) n
      · unfold wS; rw [cI_t z, hE n z]
      · unfold wS; rw [cI_f z]
        show wsum (bK D nR n) (fun k => wmult (lK D nR n k) (wDj (lK D nR) (bK D nR) 7 k)) 8 = _
        exact wsum_0 (okb n hn) fun k hk => by
          show wmult (lK D nR n k) _ = 0
          rw [hL1 n k hk, wmult_0l]
    have hT0 : ∀ r k, r < nR → k < 8 → ¬ kT D r k := fun r k hr hk z => by
      obtain ⟨t, ht, -⟩ := h4.2.2.1 r k hr hk z
      exact absurd ht (Nat.not_lt_zero t)
    obtain ⟨b1, b2, b3, b4⟩ := hB
    refine g_X4_settle_38 hW (k m1 (fun n hn => ?_) (fun n hn => ?_) (fun n hn => ?_) hfr0)
    · obtain ⟨a1, a2, a3⟩ := h1 n hn
      rw [c3 p (by omega), c2 n hn, hWS n hn]
      exact ⟨a2, fun z => (a3 z).symm⟩
    · rw [c3 (p + 4) (by omega)]
      rcases h2 n hn with ⟨a1, a2, a3⟩ | ⟨r0, a1, a2, a3, a4, a5, a6⟩
      · rw [a1]
        refine Classical.byContradiction fun z => ?_
        obtain ⟨r, r1, r2, ⟨g1, -⟩ | ⟨k, hk, g1, -⟩⟩ := b4 n hn fun y => z y.symm
        · exact a3 r r1 r2 g1
        · exact hT0 r k r1 hk g1
      · rw [a4]
        have h5 := b2 r0 a1 a2
        rw [a3] at h5
        obtain ⟨r, r1, r2, ⟨g1, g2⟩ | ⟨k, hk, g1, -⟩⟩ := b4 n hn h5.1
        · have := (a6 r r1 g1 r2).1; omega
        · exact absurd g1 (hT0 r k r1 hk)
    · rw [c3 (p + 5) (by omega)]
      rcases h2 n hn with ⟨a1, a2, a3⟩ | ⟨r0, a1, a2, a3, a4, a5, a6⟩
      · refine Or.inl ⟨?_, a2⟩
        refine Classical.byContradiction fun z => ?_
        obtain ⟨r, r1, r2, ⟨g1, -⟩ | ⟨k, hk, g1, -⟩⟩ := b4 n hn z
        · exact a3 r r1 r2 g1
        · exact hT0 r k r1 hk g1
      · have h5 := b2 r0 a1 a2
        rw [a3] at h5
        have h6 : B n = kV D r0 := by
          obtain ⟨r, r1, r2, ⟨g1, g2⟩ | ⟨k, hk, g1, -⟩⟩ := b4 n hn h5.1
          · have := (a6 r r1 g1 r2).1; omega
          · exact absurd g1 (hT0 r k r1 hk)
        refine Or.inr ⟨h5.1, r0, a5, ⟨a1, a3, Or.inl ⟨a2, h6⟩⟩, ?_⟩
        rintro r' ⟨d1, d2, ⟨e1, e2⟩ | ⟨k, hk, e1, -⟩⟩
        · have := (a6 r' d1 e1 d2).2
          omega
        · exact absurd e1 (hT0 r' k d1 hk)
  · have hMt : ∀ m : Nat → Nat → Int, (∀ b, b = p ∨ (p + 6 ≤ b ∧ b ≤ p + 9) → m b 9 = μ b 9) → (∀ b, p + 6 ≤ b → b ≤ p + 9 → m b = μ b) → tieM m p nt T := fun m hm hm2 => by
      unfold tieM
      rw [hm p (Or.inl rfl), hm2 (p + 6) (by omega) (by omega), hm2 (p + 7) (by omega) (by omega), hm2 (p + 8) (by omega) (by omega), hm2 (p + 9) (by omega) (by omega)]
      exact h3
    refine c_X4_findEndless hW hp (hMt m1 (fun b hb => by rw [c3 b (by omega)]) (fun b b0 b1 => c3 b (by omega))) (by have := h4.1; omega) hT8 hLp (fun n hn => by rw [c3 (p + 4) (by omega)]; exact hwt n hn) (by rw [c3 p (by omega)]; exact m0) (fun n hn => by rw [c3 p (by omega)]; exact hend n hn) fun v v1 v2 => ?_
    refine g_X4_settle_26 hW hp ?_
    have d1 : ∀ c, c ≠ p → up m1 p 10 v c = m1 c := fun c hc => up_o' hc
    have d2 : ∀ j, j ≠ 10 → up m1 p 10 v p j = m1 p j := fun j hj => up_k' hj p
    have d3 : up m1 p 10 v p 10 = v := up_s ..
    generalize up m1 p 10 v = m2 at d1 d2 d3
    have e4 : m2 (p + 4) = μ (p + 4) := by rw [d1 _ (by omega), c3 _ (by omega)]
    have e5 : m2 (p + 5) = μ (p + 5) := by rw [d1 _ (by omega), c3 _ (by omega)]
    have e9 : m2 p 9 = μ p 9 := by rw [d2 9 (by decide), c3 p (by omega)]
    have eT : ∀ b, p + 6 ≤ b → b ≤ p + 9 → m2 b = μ b := fun b b0 b1 => by rw [d1 b (by omega), c3 b (by omega)]
    have tM2 : tieM m2 p nt T := hMt m2 (fun b hb => by
      rcases hb with rfl | hb
      · exact e9
      · rw [eT b hb.1 hb.2]) eT
    refine c_X4_sumTies (L := lK D nR) (b := bK D nR) hW hp tM2 (by have := h4.1; omega) hT8 h4.2.2.2 (fun n hn => ?_) (fun n hn => ?_) fun m3 s1 s2 => ?_
    · obtain ⟨a1, a2, a3⟩ := h1 n hn
      rw [d1 _ (by omega), c3 _ (by omega)]
      refine ⟨a1, fun z => (a3 fun y => z ?_).symm⟩
      exact ⟨0, n, rfl, Or.inl (a2 y)⟩
    · rw [d1 _ (by omega), d1 _ (by omega), c2 n hn, c3 _ (by omega)]
    · refine g_X4_settle_30 hW hp ?_
      have tM3 : tieM m3 p nt T := by
        unfold tieM at tM2 ⊢
        rw [s2 p (by omega) (by omega), s2 (p + 6) (by omega) (by omega), s2 (p + 7) (by omega) (by omega), s2 (p + 8) (by omega) (by omega), s2 (p + 9) (by omega) (by omega)]
        exact tM2
      have e4' : m3 (p + 4) = μ (p + 4) := by rw [s2 _ (by omega) (by omega), e4]
      have e5' : m3 (p + 5) = μ (p + 5) := by rw [s2 _ (by omega) (by omega), e5]
      refine c_X4_lighten hW hp hD tM3 h4 (by unfold kBest; rw [e4', e5']; exact h2) hB fun m4 l1 l2 l3 => ?_
      rw [e4', e5'] at l2
      refine g_X4_settle_34 hW hp ?_
      have tM4 : tieM m4 p nt T := by
        unfold tieM at tM3 ⊢
        rw [l3 p (by omega) (by omega), l3 (p + 6) (by omega) (by omega), l3 (p + 7) (by omega) (by omega), l3 (p + 8) (by omega) (by omega), l3 (p + 9) (by omega) (by omega)]
        exact tM3
      refine c_X4_pick hW hp hD tM4 h4 hB l1 (fun n hn => ⟨fun z => ?_, fun z => ?_⟩) fun m5 p1 p2 => ?_
      · rcases l2 n hn with ⟨y1, y2⟩ | ⟨y1, -⟩
        · rw [y2]
          rcases h2 n hn with ⟨a1, a2, a3⟩ | ⟨r0, a1, a2, a3, a4, a5, a6⟩
          · exact a2
          · have := (hD.2 r0 a1).2.1 a2; omega
        · exact absurd z y1
      · rcases l2 n hn with ⟨y1, y2⟩ | ⟨y1, y2, y3⟩
        · rw [y2]
          rcases h2 n hn with ⟨a1, a2, a3⟩ | ⟨r0, a1, a2, a3, a4, a5, a6⟩
          · omega
          · refine ⟨Or.inr ⟨r0, a5, a1, a3, Or.inl ⟨a2, by omega⟩⟩, fun r r1 r2 r3 r4 => ?_⟩
            have := (a6 r r1 r2 r3).2
            omega
        · rw [y3]
          refine ⟨Or.inl rfl, fun r r1 r2 r3 r4 => ?_⟩
          exfalso
          rcases h2 n hn with ⟨a1, a2, a3⟩ | ⟨r0, a1, a2, a3, a4, a5, a6⟩
          · exact a3 r r1 r3 r2
          · have := (a6 r r1 r2 r3).1
            have := (hD.2 r0 a1).2.1 a2
            omega
      · have f10 : m5 p 10 = v := by rw [p2 p (by omega), l3 p (by omega) (by omega), s2 p (by omega) (by omega)]; exact d3
        refine g_X4_settle_38 hW (k m5 (fun n hn => ?_) (fun n hn => ?_) p1 ⟨fun b hb => ?_, fun j j0 j1 => ?_⟩)
        · rw [f10, v2 n hn, p2 (p + 2) (by omega), l3 (p + 2) (by omega) (by omega)]
          refine ⟨fun z => ?_, fun z => ?_⟩
          · unfold wS; exact cI_t z
          · rw [s1 n hn z]; unfold wS; exact (cI_f z).symm
        · rw [p2 (p + 4) (by omega)]; exact l1 n hn
        · rw [p2 b (by omega), l3 b (by omega) (by omega), s2 b (by omega) (by omega), d1 b (by omega)]; exact hfr0.1 b hb
        · rw [p2 p (by omega), l3 p (by omega) (by omega), s2 p (by omega) (by omega), d2 j j1]; exact hfr0.2 j j0 j1
end KP
