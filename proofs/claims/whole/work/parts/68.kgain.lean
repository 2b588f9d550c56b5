/-! the knot of the class takes gains and ties, a rule each -/
/-- what the rules of a cell bring: the name, whether it gains, its ways, its weight, whether it ties to a name, the weight of the tie -/
abbrev KD : Type := (Nat → Nat) × (Nat → Prop) × (Nat → Int) × (Nat → Int) × (Nat → Nat → Prop) × (Nat → Int)
abbrev kn (D : KD) : Nat → Nat := D.1
abbrev kG (D : KD) : Nat → Prop := D.2.1
abbrev kW (D : KD) : Nat → Int := D.2.2.1
abbrev kV (D : KD) : Nat → Int := D.2.2.2.1
abbrev kT (D : KD) : Nat → Nat → Prop := D.2.2.2.2.1
abbrev kX (D : KD) : Nat → Int := D.2.2.2.2.2
def okKD (D : KD) (nR : Nat) : Prop := nR ≤ 40 ∧ ∀ r, r < nR → kn D r < 8 ∧ (kG D r → wOK (kW D r) ∧ kW D r ≠ 0 ∧ 1 ≤ kV D r ∧ kV D r ≤ 100000000000000) ∧ (1 ≤ kX D r ∧ kX D r ≤ 1000000000) ∧ (kG D r → ∀ k, ¬ kT D r k) ∧ ∀ k k', kT D r k → kT D r k' → k = k'
noncomputable def bK (D : KD) : Nat → Nat → Int
  | 0, _ => 0
  | r + 1, n => wplus (bK D r n) (cI (kn D r = n ∧ kG D r) (kW D r) 0)
noncomputable def lK (D : KD) : Nat → Nat → Nat → Int
  | 0, _, _ => 0
  | r + 1, n, k => lK D r n k + cI (kn D r = n ∧ kT D r k) 1 0
abbrev TT : Type := Nat → Nat × Nat × Nat × Int
def cntT (T : TT) : Nat → Nat → Nat → Int
  | 0, _, _ => 0
  | t + 1, n, k => cntT T t n k + if (T t).1 = n ∧ (T t).2.2.1 = k then 1 else 0
def tieM (μ : Nat → Nat → Int) (p nt : Nat) (T : TT) : Prop := μ p 9 = nt ∧ ∀ t, t < nt → μ (p + 6) t = (T t).1 ∧ μ (p + 7) t = (T t).2.1 ∧ μ (p + 8) t = (T t).2.2.1 ∧ μ (p + 9) t = (T t).2.2.2
def kOwn (μ : Nat → Nat → Int) (p : Nat) (D : KD) (r : Nat) : Prop := mk (μ p 10) ∧ ∀ n, n < 8 → (0 ≤ μ (p + 1) n ∧ μ (p + 1) n ≤ (1000000000000000000 : Int)) ∧ (mb (μ p 10) n → bK D r n = -10) ∧ (¬ mb (μ p 10) n → bK D r n = μ (p + 1) n)
def kBest (μ : Nat → Nat → Int) (p : Nat) (D : KD) (r : Nat) : Prop := ∀ n, n < 8 → (μ (p + 4) n = -9 ∧ μ (p + 5) n = -9 ∧ ∀ r', r' < r → kn D r' = n → ¬ kG D r') ∨ ∃ r0, r0 < r ∧ kG D r0 ∧ kn D r0 = n ∧ μ (p + 4) n = kV D r0 ∧ μ (p + 5) n = (r0 : Nat) ∧ ∀ r', r' < r → kG D r' → kn D r' = n → kV D r0 ≤ kV D r' ∧ (r' < r0 → kV D r0 < kV D r')
def okTT (D : KD) (r nt : Nat) (T : TT) : Prop := nt ≤ r ∧ (∀ t, t < nt → (T t).2.1 < r ∧ kT D (T t).2.1 (T t).2.2.1 ∧ kn D (T t).2.1 = (T t).1 ∧ (T t).2.2.2 = kX D (T t).2.1 ∧ (T t).2.2.1 < 8) ∧ (∀ r' k, r' < r → k < 8 → kT D r' k → ∃ t, t < nt ∧ (T t).2.1 = r' ∧ (T t).2.2.1 = k) ∧ ∀ n k, k < 8 → cntT T nt n k = lK D r n k
def kInv (μ : Nat → Nat → Int) (p : Nat) (D : KD) (r : Nat) : Prop := kOwn μ p D r ∧ kBest μ p D r ∧ ∃ nt T, tieM μ p nt T ∧ okTT D r nt T
/-- what the work of the knot leaves -/
def frKn (p : Nat) (μ μ' : Nat → Nat → Int) : Prop := (∀ b, ¬ (p ≤ b ∧ b ≤ p + 9) → μ' b = μ b) ∧ ∀ j, j ≠ 9 → j ≠ 10 → μ' p j = μ p j
section KG
variable {sh : List (Nat × Nat)} {ν : Nat → Nat → Option Nat} {μ : Nat → Nat → Int} {f s : Nat} {Q : xQ} {p r : Nat} {D : KD} {nR : Nat}
theorem bK_ok (hD : okKD D nR) (n : Nat) : ∀ r, r ≤ nR → wOK (bK D r n) := by
  intro r
  induction r with
  | zero => exact fun _ => wOK_0
  | succ r ih =>
    intro hr
    refine wOK_plus (ih (by omega)) ?_
    by_cases q : kn D r = n ∧ kG D r
    · rw [cI_t q]; exact ((hD.2 r (by omega)).2.1 q.2).1
    · rw [cI_f q]; exact wOK_0
theorem bK_skip (hD : okKD D nR) (hr : r < nR) (hg : ¬ kG D r) (n : Nat) : bK D (r + 1) n = bK D r n := by
  show wplus (bK D r n) (cI (kn D r = n ∧ kG D r) (kW D r) 0) = _
  rw [cI_f fun z => hg z.2, wplus_0 (bK_ok hD n r (by omega))]
theorem lK_skip (ht : ∀ k, k < 8 → ¬ kT D r k) (n : Nat) {k : Nat} (hk : k < 8) : lK D (r + 1) n k = lK D r n k := by
  show lK D r n k + cI (kn D r = n ∧ kT D r k) 1 0 = _
  rw [cI_f fun z => ht k hk z.2]; omega
theorem okTT_skip {nt : Nat} {T : TT} (ht : ∀ k, k < 8 → ¬ kT D r k) (h : okTT D r nt T) : okTT D (r + 1) nt T := by
  obtain ⟨h1, h2, h3, h4⟩ := h
  refine ⟨by omega, fun t q => ?_, fun r' k q1 q2 q3 => ?_, fun n k hk => by rw [lK_skip ht n hk]; exact h4 n k hk⟩
  · obtain ⟨a1, a2⟩ := h2 t q
    exact ⟨by omega, a2⟩
  · by_cases e : r' = r
    · rw [e] at q3; exact absurd q3 (ht k q2)
    · exact h3 r' k (by omega) q2 q3
theorem kInv_skip (hD : okKD D nR) (hr : r < nR) (hg : ¬ kG D r) (ht : ∀ k, k < 8 → ¬ kT D r k) (H : kInv μ p D r) : kInv μ p D (r + 1) := by
  obtain ⟨⟨m0, h1⟩, h2, nt, T, h3, h4⟩ := H
  refine ⟨⟨m0, fun n hn => by rw [bK_skip hD hr hg]; exact h1 n hn⟩, fun n hn => ?_, nt, T, h3, okTT_skip ht h4⟩
  rcases h2 n hn with ⟨a1, a2, a3⟩ | ⟨r0, a1, a2, a3, a4, a5, a6⟩
  · refine Or.inl ⟨a1, a2, fun r' hr' hm hg' => ?_⟩
    by_cases e : r' = r
    · rw [e] at hg'; exact hg hg'
    · exact a3 r' (by omega) hm hg'
  · refine Or.inr ⟨r0, by omega, a2, a3, a4, a5, fun r' hr' hg' hm => ?_⟩
    by_cases e : r' = r
    · rw [e] at hg'; exact absurd hg' hg
    · exact a6 r' (by omega) hg' hm
theorem kInv_0 (h9 : μ p 9 = 0) (h10 : μ p 10 = 0) (h1 : ∀ n, n < 8 → μ (p + 1) n = 0) (h4 : ∀ n, n < 8 → μ (p + 4) n = -9) (h5 : ∀ n, n < 8 → μ (p + 5) n = -9) : kInv μ p D 0 := by
  refine ⟨⟨by rw [h10]; exact mk_0, fun n hn => ⟨by rw [h1 n hn]; omega, fun q => ?_, fun _ => by rw [h1 n hn]; rfl⟩⟩, fun n hn => Or.inl ⟨h4 n hn, h5 n hn, fun r' q => absurd q (Nat.not_lt_zero r')⟩, 0, fun _ => (0, 0, 0, 0), ⟨h9, fun t q => absurd q (Nat.not_lt_zero t)⟩, Nat.le_refl 0, fun t q => absurd q (Nat.not_lt_zero t), fun r' k q => absurd q (Nat.not_lt_zero r'), fun n k _ => rfl⟩
  rw [h10] at q; exact absurd q (mb_0 n)
theorem c_X4_begin (hW : WF sh ν f s) (hp : isKnot p) (k : ∀ μ' : Nat → Nat → Int, kInv μ' p D 0 → frKn p μ μ' → Q none sh ν μ') : X mX4_begin 0 [(0, vR p)] [] sh ν μ 0 0 Q := by
  refine g_X4_begin_0 hW hp (k _ (kInv_0 ?_ (up_s ..) (fun n hn => ?_) (fun n hn => ?_) fun n hn => ?_) ⟨fun b hb => ?_, fun j j0 j1 => ?_⟩)
  · rw [up_k' (by decide), up_s]
  · rw [up_a' (by omega), up_a' (by omega), filA_out (by omega), filA_out (by omega), filA_in (Nat.zero_le _) hn]
  · rw [up_a' (by omega), up_a' (by omega), filA_out (by omega), filA_in (Nat.zero_le _) hn]
  · rw [up_a' (by omega), up_a' (by omega), filA_in (Nat.zero_le _) hn]
  · funext j
    rw [up_a' (by omega), up_a' (by omega), filA_out (by omega), filA_out (by omega), filA_out (by omega)]
  · rw [up_k' j1, up_k' j0, filA_out (by omega), filA_out (by omega), filA_out (by omega)]
theorem c_X4_gain (hW : WF sh ν f s) (hp : isKnot p) (hD : okKD D nR) (hr : r < nR) (hg : kG D r) (H : kInv μ p D r) (k : ∀ μ' : Nat → Nat → Int, kInv μ' p D (r + 1) → frKn p μ μ' → Q none sh ν μ') : X mX4_gain 0 [(0, vR p), (1, vI (kn D r : Nat)), (2, vI (r : Nat)), (3, vL (kW D r)), (5, vL (kV D r))] [] sh ν μ 0 0 Q := by
  have h40 := hD.1
  obtain ⟨d1, d2, d3, d4, d5⟩ := hD.2 r hr
  obtain ⟨w1, w2, w3, w4⟩ := d2 hg
  obtain ⟨⟨m0, h1⟩, h2, nt, T, h3, h4⟩ := H
  have hno : ∀ k, k < 8 → ¬ kT D r k := fun k _ => d4 hg k
  generalize hn0 : kn D r = n0 at d1
  have i0 : (0 ≤ (n0 : Int) ∧ (n0 : Int) < (8 : Nat)) := tI d1
  have bok := bK_ok hD
  -- behind the ways
  have h39 : ∀ m : Nat → Nat → Int, kOwn m p D (r + 1) → (∀ b, b ≠ p → b ≠ p + 1 → m b = μ b) → (∀ j, j ≠ 10 → m p j = μ p j) → X mX4_gain 39 [(0, vR p), (1, vI (n0 : Nat)), (2, vI (r : Nat)), (5, vL (kV D r))] [] sh ν m 0 0 Q := by
    intro m y1 y2 y3
    have f4 : m (p + 4) = μ (p + 4) := y2 _ (by omega) (by omega)
    have f5 : m (p + 5) = μ (p + 5) := y2 _ (by omega) (by omega)
    have hT : tieM m p nt T := by
      unfold tieM
      rw [y3 9 (by decide), y2 (p + 6) (by omega) (by omega), y2 (p + 7) (by omega) (by omega), y2 (p + 8) (by omega) (by omega), y2 (p + 9) (by omega) (by omega)]
      exact h3
    have keep : ∀ m' : Nat → Nat → Int, (∀ n, n < 8 → n ≠ n0 → m' (p + 4) n = μ (p + 4) n ∧ m' (p + 5) n = μ (p + 5) n) → ∀ n, n < 8 → n ≠ n0 → (m' (p + 4) n = -9 ∧ m' (p + 5) n = -9 ∧ ∀ r', r' < r + 1 → kn D r' = n → ¬ kG D r') ∨ ∃ r0, r0 < r + 1 ∧ kG D r0 ∧ kn D r0 = n ∧ m' (p + 4) n = kV D r0 ∧ m' (p + 5) n = (r0 : Nat) ∧ ∀ r', r' < r + 1 → kG D r' → kn D r' = n → kV D r0 ≤ kV D r' ∧ (r' < r0 → kV D r0 < kV D r') := by
      intro m' hm' n hn hne
      obtain ⟨g1, g2⟩ := hm' n hn hne
      rw [g1, g2]
      rcases h2 n hn with ⟨a1, a2, a3⟩ | ⟨r0, a1, a2, a3, a4, a5, a6⟩
      · refine Or.inl ⟨a1, a2, fun r' hr' hm hg' => ?_⟩
        by_cases e : r' = r
        · subst e; exact hne (by omega)
        · exact a3 r' (by omega) hm hg'
      · refine Or.inr ⟨r0, by omega, a2, a3, a4, a5, fun r' hr' hg' hm => ?_⟩
        by_cases e : r' = r
        · subst e; exact absurd hm (by omega)
        · exact a6 r' (by omega) hg' hm
    have h62 : (μ (p + 4) n0 = -9 ∨ kV D r < μ (p + 4) n0) → X mX4_gain 62 [(0, vR p), (1, vI (n0 : Nat)), (2, vI (r : Nat)), (5, vL (kV D r))] [] sh ν m 0 0 Q := by
      intro hlt
      refine g_X4_gain_62 hW hp ⟨i0, i0, ?_⟩
      rw [Int.toNat_natCast]
      refine k _ ⟨?_, fun n hn => ?_, nt, T, ?_, okTT_skip hno h4⟩ ⟨fun b hb => ?_, fun j j0 j1 => ?_⟩
      · unfold kOwn
        rw [up_o' (show p ≠ p + 5 by omega), up_o' (show p ≠ p + 4 by omega), up_o' (show p + 1 ≠ p + 5 by omega), up_o' (show p + 1 ≠ p + 4 by omega)]
        exact y1
      · by_cases e : n = n0
        · subst e
          refine Or.inr ⟨r, Nat.lt_succ_self r, hg, hn0, by rw [up_a' (by omega), up_s], up_s .., fun r' hr' hg' hm => ?_⟩
          by_cases e : r' = r
          · subst e; exact ⟨Int.le_refl _, fun q => absurd q (Nat.lt_irrefl _)⟩
          · rcases h2 n hn with ⟨a1, a2, a3⟩ | ⟨r0, a1, a2, a3, a4, a5, a6⟩
            · exact absurd hg' (a3 r' (by omega) hm)
            · have := a6 r' (by omega) hg' hm
              rcases hlt with q | q
              · have := (hD.2 r0 (by omega)).2.1 a2; omega
              · omega
        · refine keep _ (fun n hn hne => ⟨?_, ?_⟩) n hn e
          · rw [up_a' (by omega), up_k' hne, f4]
          · rw [up_k' hne, up_a' (by omega), f5]
      · unfold tieM
        rw [up_a' (by omega), up_a' (by omega), up_o' (show p + 6 ≠ p + 5 by omega), up_o' (show p + 6 ≠ p + 4 by omega), up_o' (show p + 7 ≠ p + 5 by omega), up_o' (show p + 7 ≠ p + 4 by omega), up_o' (show p + 8 ≠ p + 5 by omega), up_o' (show p + 8 ≠ p + 4 by omega), up_o' (show p + 9 ≠ p + 5 by omega), up_o' (show p + 9 ≠ p + 4 by omega)]
        exact hT
      · rw [up_o' (by omega), up_o' (by omega)]; exact y2 b (by omega) (by omega)
      · rw [up_a' (by omega), up_a' (by omega)]; exact y3 j j1
    refine g_X4_gain_39 hW hp ?_
    rw [Int.toNat_natCast, f4]
    refine ⟨i0, fun q => h62 ?_, fun q => ⟨i0, fun q2 => k m ⟨y1, fun n hn => ?_, nt, T, hT, okTT_skip hno h4⟩ ⟨fun b hb => y2 b (by omega) (by omega), fun j j0 j1 => y3 j j1⟩, fun q2 => h62 (Or.inr q2)⟩⟩
    · rcases h2 n0 d1 with ⟨a1, -, -⟩ | ⟨r0, a1, a2, a3, a4, -, -⟩
      · exact Or.inl a1
      · have := (hD.2 r0 (by omega)).2.1 a2; omega
    · by_cases e : n = n0
      · subst e
        rw [f4, f5]
        rcases h2 n hn with ⟨a1, a2, a3⟩ | ⟨r0, a1, a2, a3, a4, a5, a6⟩
        · omega
        · refine Or.inr ⟨r0, by omega, a2, a3, a4, a5, fun r' hr' hg' hm => ?_⟩
          by_cases e : r' = r
          · subst e; exact ⟨by omega, fun q => absurd q (by omega)⟩
          · exact a6 r' (by omega) hg' hm
      · exact keep m (fun n hn hne => ⟨by rw [f4], by rw [f5]⟩) n hn e
  have hbK : ∀ n, bK D (r + 1) n = if n = n0 then wplus (bK D r n) (kW D r) else bK D r n := fun n => by
    show wplus (bK D r n) (cI (kn D r = n ∧ kG D r) (kW D r) 0) = _
    by_cases e : n = n0
    · rw [if_pos e, cI_t ⟨by omega, hg⟩]
    · rw [if_neg e, cI_f fun z => e (by omega), wplus_0 (bok n r (by omega))]
  refine g_X4_gain_0 hW hp ?_
  rw [Int.toNat_natCast]
  refine ⟨fun q => ?_, fun q => ?_⟩
  · have w1' : 0 ≤ kW D r ∧ kW D r ≤ (1000000000000000000 : Int) := by unfold wOK at w1; omega
    refine ⟨i0, (h1 n0 d1).1, w1', i0, h39 _ ⟨?_, fun n hn => ?_⟩ (fun b b0 b1 => up_o' b1) fun j _ => up_a' (by omega) j⟩
    · rw [up_a' (by omega)]; exact m0
    · obtain ⟨a1, a2, a3⟩ := h1 n hn
      rw [up_a' (show p ≠ p + 1 by omega), hbK n]
      by_cases e : n = n0
      · subst e
        rw [up_s, if_pos rfl]
        refine ⟨by omega, fun z => ?_, fun z => ?_⟩
        · rw [a2 z]; unfold wplus; rw [if_pos (Or.inl (by omega))]
        · rw [a3 z]; unfold wplus; rw [if_neg (by omega)]
      · rw [up_k' e, if_neg e]; exact ⟨a1, a2, a3⟩
  · refine h39 _ ⟨?_, fun n hn => ?_⟩ (fun b b0 b1 => up_o' b0) fun j j1 => up_k' j1 p
    · rw [up_s]; exact mk_set m0 d1
    · obtain ⟨a1, a2, a3⟩ := h1 n hn
      rw [up_s, up_a' (show p + 1 ≠ p by omega), hbK n, mb_set d1 hn]
      by_cases e : n = n0
      · subst e
        rw [if_pos rfl, q]
        refine ⟨a1, fun _ => ?_, fun z => absurd (Or.inr rfl) z⟩
        unfold wplus; rw [if_pos (Or.inr (by decide))]
      · rw [if_neg e]
        exact ⟨a1, fun z => a2 (z.elim id fun z => absurd z e), fun z => a3 fun y => z (Or.inl y)⟩
theorem c_X4_tie (hW : WF sh ν f s) (hp : isKnot p) (hD : okKD D nR) (hr : r < nR) {k0 : Nat} (hk0 : k0 < 8) (hg : kT D r k0) (H : kInv μ p D r) (k : ∀ μ' : Nat → Nat → Int, kInv μ' p D (r + 1) → frKn p μ μ' → Q none sh ν μ') : X mX4_tie 0 [(0, vR p), (1, vI (kn D r : Nat)), (2, vI (r : Nat)), (3, vI (k0 : Nat)), (4, vL (kX D r))] [] sh ν μ 0 0 Q := by
  have h40 := hD.1
  obtain ⟨d1, d2, d3, d4, d5⟩ := hD.2 r hr
  have hng : ¬ kG D r := fun z => d4 z k0 hg
  obtain ⟨⟨m0, h1⟩, h2, nt, T, ⟨h3, h3'⟩, h4, h5, h6, h7⟩ := H
  refine g_X4_tie_0 hW hp ?_
  rw [h3, Int.toNat_natCast, wi1 (by omega)]
  refine ⟨fun _ => ⟨by omega, by omega, by omega, by omega, ?_⟩, fun q => absurd q (by omega)⟩
  let T' : TT := fun t => if t = nt then (kn D r, r, k0, kX D r) else T t
  have eT : T' nt = (kn D r, r, k0, kX D r) := if_pos rfl
  have eT2 : ∀ t, t < nt → T' t = T t := fun t q => if_neg (by omega)
  have hc : ∀ t n k, t ≤ nt → cntT T' t n k = cntT T t n k := by
    intro t n k
    induction t with
    | zero => exact fun _ => rfl
    | succ t ih =>
      intro q
      show cntT T' t n k + _ = cntT T t n k + _
      rw [ih (by omega), eT2 t (by omega)]
  refine k _ ⟨⟨?_, fun n hn => ?_⟩, fun n hn => ?_, nt + 1, T', ⟨up_s .., fun t ht => ?_⟩, by omega, fun t ht => ?_, fun r' k' q1 q2 q3 => ?_, fun n k' hk' => ?_⟩ ⟨fun b hb => ?_, fun j j0 j1 => ?_⟩
  · simp (disch := omega) only [up_a', up_k']; exact m0
  · rw [bK_skip hD hr hng]
    simp (disch := omega) only [up_a', up_k']
    exact h1 n hn
  · simp (disch := omega) only [up_a']
    rcases h2 n hn with ⟨a1, a2, a3⟩ | ⟨r0, a1, a2, a3, a4, a5, a6⟩
    · refine Or.inl ⟨a1, a2, fun r' hr' hm hg' => ?_⟩
      by_cases e : r' = r
      · rw [e] at hg'; exact hng hg'
      · exact a3 r' (by omega) hm hg'
    · refine Or.inr ⟨r0, by omega, a2, a3, a4, a5, fun r' hr' hg' hm => ?_⟩
      by_cases e : r' = r
      · rw [e] at hg'; exact absurd hg' hng
      · exact a6 r' (by omega) hg' hm
  · by_cases e : t = nt
    · rw [e, eT]
      simp (disch := omega) only [up_s, up_a']
      exact ⟨trivial, trivial, trivial, trivial⟩
    · rw [eT2 t (by omega)]
      simp (disch := omega) only [up_a', up_k']
      exact h3' t (by omega)
  · by_cases e : t = nt
    · rw [e, eT]
      exact ⟨Nat.lt_succ_self r, hg, rfl, rfl, hk0⟩
    · rw [eT2 t (by omega)]
      obtain ⟨a1, a2⟩ := h5 t (by omega)
      exact ⟨by omega, a2⟩
  · by_cases e : r' = r
    · subst e
      have := d5 k' k0 q3 hg
      subst this
      exact ⟨nt, Nat.lt_succ_self nt, by rw [eT], by rw [eT]⟩
    · obtain ⟨t, a1, a2, a3⟩ := h6 r' k' (by omega) q2 q3
      exact ⟨t, by omega, by rw [eT2 t a1]; exact a2, by rw [eT2 t a1]; exact a3⟩
  · show cntT T' nt n k' + (if (T' nt).1 = n ∧ (T' nt).2.2.1 = k' then 1 else 0) = lK D r n k' + cI (kn D r = n ∧ kT D r k') 1 0
    rw [hc nt n k' (Nat.le_refl _), h7 n k' hk', eT]
    by_cases q : kn D r = n ∧ k0 = k'
    · rw [if_pos q, cI_t ⟨q.1, q.2 ▸ hg⟩]
    · rw [if_neg q, cI_f fun z => q ⟨z.1, d5 k0 k' hg z.2⟩]
  · simp (disch := omega) only [up_o']
  · simp (disch := omega) only [up_a', up_k']
end KG
