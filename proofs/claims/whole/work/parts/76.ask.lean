/-! a chart asks for what its cells rest on -/
def dmC (a : Nat) (B : BD) (c : Nat) : Prop := a = 231 → inB B (cX a c) (cY a c) (cW a c) (cH a c)
/-- the masks of what is asked for; none beyond the board -/
def okA (μ : Nat → Nat → Int) (a : Nat) (B : BD) : Prop := ∀ c, c < nsp a * nsp a → mk (μ (a + 13) c) ∧ ∀ n, n < 8 → mb (μ (a + 13) c) n → dmC a B c
def pcsA (m : Nat → Nat → Int) (a c : Nat) (R : GR) (nR k : Nat) : Prop := ∀ r, r < nR → nmR R r = k → holdsF (R r) (cW a c) (cH a c) → ∀ i, i < pcN (R r) (cW a c) (cH a c) → mb (m (a + 13) (pcC a c (R r) i)) (Int.toNat (pcNm (R r) i))
def cloA (m : Nat → Nat → Int) (a c : Nat) (R : GR) (nR : Nat) : Prop := ∀ n, n < 8 → mb (m (a + 13) c) n → ¬ mb (m (a + 14) c) n → pcsA m a c R nR n
def monA (a : Nat) (m m' : Nat → Nat → Int) : Prop := ∀ c, c < nsp a * nsp a → ∀ n, n < 8 → mb (m (a + 13) c) n → mb (m' (a + 13) c) n
def frAs (a : Nat) (m m' : Nat → Nat → Int) : Prop := ∀ b, b ≠ a + 13 → b ≠ 207 → b ≠ 208 → b ≠ 209 → b ≠ 210 → m' b = m b
section AK
variable {sh : List (Nat × Nat)} {ν : Nat → Nat → Option Nat} {μ : Nat → Nat → Int} {f s : Nat} {Q : xQ} {a c i : Nat} {d : RD} {B : BD} {nR : Nat} {R : GR}
theorem isChart_b (hA : isChart a) : 213 ≤ a ∧ a ≤ 231 := by rcases hA with rfl | rfl <;> decide
theorem chA_congr {m : Nat → Nat → Int} (h : ∀ b, b = a ∨ b = a + 11 ∨ b = a + 12 → m b = μ b) (H : chA μ a) : chA m a := by
  unfold chA at *
  rw [h a (Or.inl rfl), h (a + 11) (Or.inr (Or.inl rfl)), h (a + 12) (Or.inr (Or.inr rfl))]
  exact H
theorem dm_piece (hA : isChart a) (hc : c < nsp a * nsp a) (ho : okR d) (hh : holdsF d (cW a c) (cH a c)) (hi : i < pcN d (cW a c) (cH a c)) (hd : dmC a B c) : dmC a B (pcC a c d i) := by
  intro q
  have h1 := hd q
  have hok := pcC_ok (B := B) hA hc ho hh hi
  obtain ⟨p1, p2, p3, p4, p5, p6⟩ := pc_in ho (cell_ok (B := B) hA hc) hh hi
  obtain ⟨e1, e2, e3⟩ := clN_at hA hok
  obtain ⟨e3, e4⟩ := e3 q
  show inB B (cX a (clN a _ _ _ _)) (cY a (clN a _ _ _ _)) (cW a (clN a _ _ _ _)) (cH a (clN a _ _ _ _))
  rw [e1, e2, e3, e4]
  obtain ⟨⟨a1, a2⟩, a3, a4⟩ := h1
  exact ⟨⟨hok.1, hok.2.1⟩, by omega, by omega⟩
theorem c_X1_askParts (hW : WF sh ν f s) (hA : isChart a) (HA : chA μ a) (hc : c < nsp a * nsp a) (ho : okR d) (hh : holdsF d (cW a c) (cH a c)) (hl : laidX μ d (cW a c) (cH a c)) (hM : ∀ c, c < nsp a * nsp a → mk (μ (a + 13) c))
    (k : ∀ μ' : Nat → Nat → Int, (∀ c', c' < nsp a * nsp a → mk (μ' (a + 13) c') ∧ ∀ n, n < 8 → (mb (μ' (a + 13) c') n ↔ mb (μ (a + 13) c') n ∨ ∃ i, i < pcN d (cW a c) (cH a c) ∧ pcC a c d i = c' ∧ Int.toNat (pcNm d i) = n)) → (∀ c', c < c' → μ' (a + 13) c' = μ (a + 13) c') → (∀ b, b ≠ a + 13 → μ' b = μ b) → Q none sh ν μ') : X mX1_askParts 0 [(0, vR a), (1, vI (c : Nat)), (2, vI (bI (rk d = 2 ∨ rk d = 4)))] [] sh ν μ 0 0 Q := by
  have hab := isChart_b hA
  have hs : isSc (cW a c : Nat) (cH a c : Nat) := by
    obtain ⟨h1, h2, h3, h4, -⟩ := cell_ok (B := (1, 1, fun _ => 0)) hA hc
    exact ⟨by omega, by omega⟩
  have h20 := pcN_20 ho hs
  refine g_X1_askParts_0 hW hA ?_
  have key := loop_up (pcN d (cW a c) (cH a c)) (fun (j : Nat) (m : Nat → Nat → Int) => (∀ c', c' < nsp a * nsp a → mk (m (a + 13) c') ∧ ∀ n, n < 8 → (mb (m (a + 13) c') n ↔ mb (μ (a + 13) c') n ∨ ∃ i, i < j ∧ pcC a c d i = c' ∧ Int.toNat (pcNm d i) = n)) ∧ (∀ c', c < c' → m (a + 13) c' = μ (a + 13) c') ∧ ∀ b, b ≠ a + 13 → m b = μ b) (fun j m => X mX1_askParts 2 [(0, vR a), (1, vI (c : Nat)), (2, vI (bI (rk d = 2 ∨ rk d = 4))), (3, vI (j : Nat))] [] sh ν m 0 0 Q) ?_ ?_ 0 μ (Nat.zero_le _) ⟨fun c' hc' => ⟨hM c' hc', fun n _ => ⟨Or.inl, fun q => q.elim id fun ⟨i, h, _⟩ => absurd h (Nat.not_lt_zero i)⟩⟩, fun _ _ => rfl, fun _ _ => rfl⟩
  · exact key
  · rintro m ⟨h1, h2, h3⟩
    refine g_X1_askParts_2 hW hA ?_
    rw [h3 207 (by omega), hl.1]
    exact ⟨fun _ => k m h1 h2 h3, fun q => absurd q (by omega)⟩
  · rintro j m hj ⟨h1, h2, h3⟩ ih
    have hl' : laidX m d (cW a c) (cH a c) := by
      unfold laidX
      rw [h3 207 (by omega), h3 208 (by omega), h3 209 (by omega), h3 210 (by omega)]
      exact hl
    have hpb := pcC_b hA hc ho hh hj
    have hple := pcC_le hA hc ho hh hj
    have hk := pcN_k hj
    have hnm := pcNm_b ho hk hj
    obtain ⟨nn, hnn⟩ : ∃ nn : Nat, pcNm d j = nn := ⟨Int.toNat (pcNm d j), by omega⟩
    have hn8 : nn < 8 := by omega
    refine g_X1_askParts_2 hW hA ?_
    rw [h3 207 (by omega), hl.1]
    refine ⟨fun q => absurd q (by omega), fun _ => ?_⟩
    refine c_X1_cellOfPart hW hA (chA_congr (fun b hb => h3 b (by omega)) HA) hc ho hh hl' hj ?_
    refine g_X1_askParts_20 hW hA ?_
    rw [Int.toNat_natCast, Int.toNat_natCast, h3 208 (by omega), (hl.2 j hj).1, hnn]
    refine ⟨fun q => absurd q (by omega), fun _ => ⟨fun q => absurd q (by omega), fun _ => ⟨by omega, by omega, by omega, ?_⟩⟩⟩
    refine g_X1_askParts_54 hW hA ?_
    rw [wi1 (i := j) (by omega)]
    refine ih _ ⟨fun c' hc' => ?_, fun c' hc' => ?_, fun b hb => by rw [up_o' hb]; exact h3 b hb⟩
    · obtain ⟨g1, g2⟩ := h1 c' hc'
      by_cases e : c' = pcC a c d j
      · subst e
        rw [up_s]
        refine ⟨mk_set g1 hn8, fun n hn => ?_⟩
        rw [mb_set hn8 hn, g2 n hn]
        constructor
        · rintro ((q | ⟨i, hi, q⟩) | q)
          · exact Or.inl q
          · exact Or.inr ⟨i, by omega, q⟩
          · exact Or.inr ⟨j, by omega, rfl, by omega⟩
        · rintro (q | ⟨i, hi, q1, q2⟩)
          · exact Or.inl (Or.inl q)
          · by_cases z : i = j
            · subst z; exact Or.inr (by omega)
            · exact Or.inl (Or.inr ⟨i, by omega, q1, q2⟩)
      · rw [up_k' e]
        refine ⟨g1, fun n hn => ?_⟩
        rw [g2 n hn]
        constructor
        · rintro (q | ⟨i, hi, q⟩)
          · exact Or.inl q
          · exact Or.inr ⟨i, by omega, q⟩
        · rintro (q | ⟨i, hi, q1, q2⟩)
          · exact Or.inl q
          · by_cases z : i = j
            · subst z; exact absurd q1.symm e
            · exact Or.inr ⟨i, by omega, q1, q2⟩
    · rw [up_k' (by omega)]; exact h2 c' hc'
def mbb (m : Int) (k : Nat) : Bool := (Int32.ofInt m).toBitVec.getLsbD k
theorem mbb_iff (m : Int) (k : Nat) : mbb m k = true ↔ mb m k := Iff.rfl
theorem cardS_all {S : Nat → Bool} (h : 8 ≤ cardS S) : ∀ k, k < 8 → S k = true := by
  intro k hk
  cases e : S k with
  | true => rfl
  | false =>
    have h1 := cardS_lt (S := S) (T := fun _ => true) hk e rfl fun m _ _ => rfl
    have h2 := cardS_8 (fun _ => true)
    omega
theorem nmR_i (hG : okG nR R) {r : Nat} (hr : r < nR) : rn (R r) = (nmR R r : Nat) ∧ nmR R r < 8 := by
  have := (hG.2 r hr).1
  unfold nmR
  omega
theorem c_X1_askBelow (hW : WF sh ν f s) (hA : isChart a) (hG : okG nR R) (HX : IXg μ nR R) (HA : chA μ a) (hc : c < nsp a * nsp a) (hM : okA μ a B) (hS : mk (μ (a + 14) c))
    (k : ∀ μ' : Nat → Nat → Int, okA μ' a B → cloA μ' a c R nR → monA a μ μ' → (∀ c', c < c' → μ' (a + 13) c' = μ (a + 13) c') → frAs a μ μ' → Q none sh ν μ') : X mX1_askBelow 0 [(0, vR a), (1, vI (c : Nat))] [] sh ν μ 0 0 Q := by
  have hab := isChart_b hA
  have hn := nsp_b hA
  have h40 := hG.1
  obtain ⟨c1, c2, c3⟩ := cl_b hA hc
  obtain ⟨A1, A2, A3⟩ := id HA
  have hce := cell_ok (B := B) hA hc
  have hs : isSc (cW a c : Nat) (cH a c : Nat) := by
    obtain ⟨h1, h2, h3, h4, -⟩ := hce
    exact ⟨by omega, by omega⟩
  refine g_X1_askBelow_0 hW hA ?_
  rw [A2, tdiv_n c (nsp a) (by omega), tmod_n c (nsp a) (by omega), Int.toNat_natCast, Int.toNat_natCast, Int.toNat_natCast, (A3 _ c1).2, (A3 _ c2).2]
  refine ⟨by omega, tI c1, by omega, tI c2, tI hc, ?_⟩
  have key := loop_up 8 (fun (t : Nat) (v : Int × (Nat → Nat → Int)) => mk v.1 ∧ (∀ k, k < 8 → mb (μ (a + 14) c) k → mb v.1 k) ∧ (∀ k, k < 8 → mb v.1 k → mb (μ (a + 14) c) k ∨ pcsA v.2 a c R nR k) ∧ (t : Int) ≤ cardS (mbb v.1) ∧ okA v.2 a B ∧ monA a μ v.2 ∧ (∀ c', c < c' → v.2 (a + 13) c' = μ (a + 13) c') ∧ frAs a μ v.2) (fun t v => X mX1_askBelow 35 [(0, vR a), (1, vI (c : Nat)), (2, vI (cW a c : Nat)), (3, vI (cH a c : Nat)), (4, vI v.1), (5, vI (t : Nat))] [] sh ν v.2 0 0 Q) ?_ ?_ 0 (μ (a + 14) c, μ) (Nat.zero_le _) ⟨hS, fun k _ q => q, fun k _ q => Or.inl q, ?_, hM, fun _ _ _ _ q => q, fun _ _ => rfl, fun _ _ _ _ _ _ => rfl⟩
  · exact key
  · rintro ⟨v, m⟩ ⟨u1, u2, u3, u4, u5, u6, u7, u8⟩
    refine g_X1_askBelow_35 hW hA ⟨fun _ => k m u5 (fun n hn q1 q2 => ?_) u6 u7 u8, fun q => absurd q (by omega)⟩
    rw [show m (a + 14) = μ (a + 14) from u8 _ (by omega) (by omega) (by omega) (by omega) (by omega)] at q2
    have hall := cardS_all u4 n hn
    exact (u3 n hn hall).elim (fun z => absurd z q2) id
  · rintro t ⟨v, m⟩ ht ⟨u1, u2, u3, u4, u5, u6, u7, u8⟩ ih
    refine g_X1_askBelow_35 hW hA ⟨fun q => absurd q (by omega), fun _ => ⟨tI hc, fun q => ?_, fun q => ⟨tI hc, ?_⟩⟩⟩
    · refine k m u5 (fun n hn q1 q2 => ?_) u6 u7 u8
      rw [show m (a + 14) = μ (a + 14) from u8 _ (by omega) (by omega) (by omega) (by omega) (by omega)] at q2
      have hz : mb v n := by
        refine Classical.byContradiction fun z => ?_
        have := (mk_zero (mk_andn (b := v) (u5 c hc).1)).1 q n hn
        exact this ((mb_andn _ _ (by omega)).2 ⟨q1, z⟩)
      exact (u3 n hn hz).elim (fun z => absurd z q2) id
    · have hfr : mk (xand (m (a + 13) c) (xxor v (-1))) := mk_andn (u5 c hc).1
      have hfb : ∀ k, k < 8 → (mb (xand (m (a + 13) c) (xxor v (-1))) k ↔ mb (m (a + 13) c) k ∧ ¬ mb v k) := fun k hk => mb_andn _ _ (by omega)
      show X mX1_askBelow 79 [(0, vR a), (1, vI (c : Nat)), (2, vI (cW a c : Nat)), (3, vI (cH a c : Nat)), (4, vI (xor_ v (xand (m (a + 13) c) (xxor v (-1))))), (5, vI (t : Nat)), (6, vI (xand (m (a + 13) c) (xxor v (-1)))), (7, vI 0)] [] sh ν m 0 0 Q
      have hne : ∃ k, k < 8 ∧ mb (xand (m (a + 13) c) (xxor v (-1))) k := by
        refine Classical.byContradiction fun z => q ?_
        show xand (m (a + 13) c) (xxor v (-1)) = 0
        rw [mk_zero hfr]
        exact fun k hk y => z ⟨k, hk, y⟩
      generalize xand (m (a + 13) c) (xxor v (-1)) = fr at hfr hfb hne
      have hdc : dmC a B c := by
        obtain ⟨k, hk, y⟩ := hne
        exact (u5 c hc).2 k hk ((hfb k hk).1 y).1
      have key2 := loop_up nR (fun (r : Nat) (m' : Nat → Nat → Int) => (∀ r', r' < r → mb fr (nmR R r') → holdsF (R r') (cW a c) (cH a c) → ∀ i, i < pcN (R r') (cW a c) (cH a c) → mb (m' (a + 13) (pcC a c (R r') i)) (Int.toNat (pcNm (R r') i))) ∧ okA m' a B ∧ monA a m m' ∧ (∀ c', c < c' → m' (a + 13) c' = μ (a + 13) c') ∧ frAs a μ m') (fun r m' => X mX1_askBelow 79 [(0, vR a), (1, vI (c : Nat)), (2, vI (cW a c : Nat)), (3, vI (cH a c : Nat)), (4, vI (xor_ v fr)), (5, vI (t : Nat)), (6, vI fr), (7, vI (r : Nat))] [] sh ν m' 0 0 Q) ?_ ?_ 0 m (Nat.zero_le _) ⟨fun r' h => absurd h (Nat.not_lt_zero r'), u5, fun _ _ _ _ q => q, u7, u8⟩
      · exact key2
      · rintro m' ⟨w1, w2, w3, w4, w5⟩
        have e1 : m' 1 2 = nR := by rw [w5 1 (by omega) (by omega) (by omega) (by omega) (by omega)]; exact HX.1
        refine g_X1_askBelow_79 hW hA ?_
        rw [e1]
        refine ⟨fun _ => ?_, fun q => absurd q (by omega)⟩
        rw [wi1 (i := t) (by omega)]
        refine ih (xor_ v fr, m') ⟨mk_or u1 hfr, fun k hk z => (mb_or _ _ _).2 (Or.inl (u2 k hk z)), fun k hk z => ?_, ?_, w2, fun c' hc' n hn z => w3 c' hc' n hn (u6 c' hc' n hn z), w4, w5⟩
        · rcases (mb_or _ _ _).1 z with z | z
          · rcases u3 k hk z with y | y
            · exact Or.inl y
            · refine Or.inr fun r hr hm hh i hi => ?_
              have ho := hG.2 r hr
              exact w3 _ (pcC_b hA hc ho hh hi) _ (pcNm_8 ho (pcN_k hi) hi) (y r hr hm hh i hi)
          · exact Or.inr fun r hr hm hh i hi => w1 r hr (hm.symm ▸ z) hh i hi
        · obtain ⟨k0, hk0, y⟩ := hne
          have hnv : mbb v k0 = false := by
            cases e : mbb v k0 with
            | false => rfl
            | true => exact absurd e ((hfb k0 hk0).1 y).2
          have := cardS_lt (S := mbb v) (T := mbb (xor_ v fr)) hk0 hnv ((mb_or v fr k0).2 (Or.inr y)) fun k _ z => (mb_or v fr k).2 (Or.inl z)
          show ((t + 1 : Nat) : Int) ≤ cardS (mbb (xor_ v fr))
          have u4' : (t : Int) ≤ cardS (mbb v) := u4
          omega
      · rintro r m' hr ⟨w1, w2, w3, w4, w5⟩ ih2
        have ho := hG.2 r hr
        obtain ⟨nm1, nm2⟩ := nmR_i hG hr
        have HX' : IXg m' nR R := IXg_congr h40 (w5 1 (by omega) (by omega) (by omega) (by omega) (by omega)) (fun b b0 b1 => w5 b (by omega) (by omega) (by omega) (by omega) (by omega)) HX
        have hP := HX'.2 r hr
        have e1 : m' 1 2 = nR := HX'.1
        have h140 : ∀ m2 : Nat → Nat → Int, (mb fr (nmR R r) → holdsF (R r) (cW a c) (cH a c) → ∀ i, i < pcN (R r) (cW a c) (cH a c) → mb (m2 (a + 13) (pcC a c (R r) i)) (Int.toNat (pcNm (R r) i))) → okA m2 a B → monA a m' m2 → (∀ c', c < c' → m2 (a + 13) c' = μ (a + 13) c') → frAs a μ m2 → X mX1_askBelow 140 [(0, vR a), (1, vI (c : Nat)), (2, vI (cW a c : Nat)), (3, vI (cH a c : Nat)), (4, vI (xor_ v fr)), (5, vI (t : Nat)), (6, vI fr), (7, vI (r : Nat))] [] sh ν m2 0 0 Q := by
          intro m2 z1 z2 z3 z4 z5
          refine g_X1_askBelow_140 hW hA ?_
          rw [wi1 (i := r) (by omega)]
          refine ih2 m2 ⟨fun r' hr' y1 y2 i hi => ?_, z2, fun c' hc' n hn y => z3 c' hc' n hn (w3 c' hc' n hn y), z4, z5⟩
          by_cases e : r' = r
          · subst e; exact z1 y1 y2 i hi
          · have ho' := hG.2 r' (by omega)
            exact z3 _ (pcC_b hA hc ho' y2 hi) _ (pcNm_8 ho' (pcN_k hi) hi) (w1 r' (by omega) y1 y2 i hi)
        refine g_X1_askBelow_79 hW hA ?_
        rw [e1, Int.toNat_natCast, hP.1.1, nm1]
        refine ⟨fun q => absurd q (by omega), fun _ => ⟨by omega, fun q => h140 m' (fun y => absurd q ((mb_test nm2).2 y)) w2 (fun _ _ _ _ q => q) w4 w5, fun q => ?_⟩⟩
        have hq := (mb_test nm2).1 q
        have hR : isRule (7 + 5 * r) := ⟨r, by omega, rfl⟩
        refine c_X5_lay hW hR hP ho hs.1 hs.2 (fun g m2 g1 g2 => ?_) (fun g m2 g2 => ?_)
        · have hfr2 : frAs a μ m2 := fun b b0 b1 b2 b3 b4 => by rw [g2 b b1 b2 b3 b4]; exact w5 b b0 b1 b2 b3 b4
          have q13 : m2 (a + 13) = m' (a + 13) := g2 _ (by omega) (by omega) (by omega) (by omega)
          refine g_X1_askBelow_127 hW hA hR ⟨fun q => absurd q (by decide), fun _ => ?_⟩
          rw [g2 (7 + 5 * r) (by omega) (by omega) (by omega) (by omega), atR_kind hP]
          refine c_X1_askParts hW hA (chA_congr (fun b hb => hfr2 b (by omega) (by omega) (by omega) (by omega) (by omega)) HA) hc ho g g1 (fun c' hc' => by rw [q13]; exact (w2 c' hc').1) fun m3 y1 y2 y3 => ?_
          rw [q13] at y1 y2
          refine h140 m3 (fun _ _ i hi => ?_) (fun c' hc' => ⟨(y1 c' hc').1, fun n hn z => ?_⟩) (fun c' hc' n hn z => ((y1 c' hc').2 n hn).2 (Or.inl z)) (fun c' hc' => by rw [y2 c' hc']; exact w4 c' hc') fun b b0 b1 b2 b3 b4 => by rw [y3 b b0]; exact hfr2 b b0 b1 b2 b3 b4
          · exact ((y1 _ (pcC_b hA hc ho g hi)).2 _ (pcNm_8 ho (pcN_k hi) hi)).2 (Or.inr ⟨i, hi, rfl, rfl⟩)
          · rcases ((y1 c' hc').2 n hn).1 z with z | ⟨i, hi, z1, -⟩
            · exact (w2 c' hc').2 n hn z
            · rw [← z1]; exact dm_piece hA hc ho g hi hdc
        · refine g_X1_askBelow_127 hW hA hR ⟨fun _ => h140 m2 (fun _ y => absurd y g) ?_ ?_ ?_ ?_, fun q => absurd rfl q⟩
          · have q13 : m2 (a + 13) = m' (a + 13) := g2 _ (by omega) (by omega) (by omega) (by omega)
            unfold okA; rw [q13]; exact w2
          · have q13 : m2 (a + 13) = m' (a + 13) := g2 _ (by omega) (by omega) (by omega) (by omega)
            intro c' hc' n hn z; rw [q13]; exact z
          · have q13 : m2 (a + 13) = m' (a + 13) := g2 _ (by omega) (by omega) (by omega) (by omega)
            intro c' hc'; rw [q13]; exact w4 c' hc'
          · exact fun b b0 b1 b2 b3 b4 => by rw [g2 b b1 b2 b3 b4]; exact w5 b b0 b1 b2 b3 b4
  · exact sumN_nn fun i _ => by
      show 0 ≤ (if _ = true then (1 : Int) else 0)
      split <;> omega
end AK
