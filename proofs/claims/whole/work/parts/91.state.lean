/-! what both sides stand for, between the law's calls -/
abbrev ST : Type := (Nat × GR) × (Nat × (Nat → PD)) × FR × BD × Int
abbrev sN (S : ST) : Nat := S.1.1
abbrev sR (S : ST) : GR := S.1.2
abbrev sC (S : ST) : Nat := S.2.1.1
abbrev sT (S : ST) : Nat → PD := S.2.1.2
abbrev sF (S : ST) : FR := S.2.2.1
abbrev sB (S : ST) : BD := S.2.2.2.1
abbrev sK (S : ST) : Int := S.2.2.2.2
def okS (S : ST) : Prop := okG (sN S) (sR S) ∧ okC (sC S) (sT S) ∧ okF (sF S) ∧ okB (sB S)
def XS (S : ST) (f : Nat) (μ : Nat → Nat → Int) : Prop := IXg μ (sN S) (sR S) ∧ IXc μ (sC S) (sT S) ∧ IXf μ f (sF S) ∧ IXb μ (sB S) ∧ IXt μ 213 (sB S) (sR S) (sN S) ∧ IXt μ 231 (sB S) (sR S) (sN S) ∧ μ 0 8 = sK S
def MS (S : ST) (μ : Nat → Nat → Int) : Prop := IMg μ (sN S) (sR S) ∧ IMc μ (sC S) (sT S) ∧ IMf μ (sF S) ∧ IMb μ (sB S) ∧ IMt μ (sN S) (sR S) (sB S) ∧ μ 265 26 = sK S
def kXo (Q : xQ) (v : xV) (S : ST) (μ : Nat → Nat → Int) : Prop := ∀ (f s : Nat) (ν' : Nat → Nat → Option Nat) (μ' : Nat → Nat → Int), WF SH ν' f s → XS S f μ' → (∀ b, 265 ≤ b → μ' b = μ b) → Q (some v) SH ν' μ'
def kMo (Q : xQ) (v : xV) (S : ST) (ν : Nat → Nat → Option Nat) (μ : Nat → Nat → Int) : Prop := ∀ μ' : Nat → Nat → Int, MS S μ' → (∀ b, b < 265 → μ' b = μ b) → Q (some v) SH ν μ'
noncomputable def sl {α : Type} (P : Prop) (a b : α) : α := @ite α P (Classical.propDecidable P) a b
theorem sl_t {α : Type} {P : Prop} {a b : α} (h : P) : sl P a b = a := if_pos h
theorem sl_f {α : Type} {P : Prop} {a b : α} (h : ¬ P) : sl P a b = b := if_neg h
theorem IXf_congr {m m' : Nat → Nat → Int} {f : Nat} {F : FR} (h0 : m' f = m f) (h1 : m' (f + 1) = m (f + 1)) (h2 : m' (f + 2) = m (f + 2)) (H : IXf m f F) : IXf m' f F := by
  unfold IXf at *
  rw [h0, h1, h2]; exact H
theorem IMf_congr {m m' : Nat → Nat → Int} {F : FR} (h0 : ∀ j, 18 ≤ j → j ≤ 22 → m' 265 j = m 265 j) (h1 : m' 281 = m 281) (h2 : m' 282 = m 282) (H : IMf m F) : IMf m' F := by
  unfold IMf at *
  rw [h0 18 (by omega) (by omega), h0 19 (by omega) (by omega), h0 20 (by omega) (by omega), h0 22 (by omega) (by omega), h1, h2]; exact H
theorem IMb_congr {m m' : Nat → Nat → Int} {B : BD} (h0 : m' 265 35 = m 265 35) (h1 : m' 265 36 = m 265 36) (h2 : m' 292 = m 292) (H : IMb m B) : IMb m' B := by
  unfold IMb at *
  rw [h0, h1, h2]; exact H
theorem IXt_congr {m m' : Nat → Nat → Int} {a : Nat} {B : BD} {R : GR} {nR : Nat} (h : ∀ b, a ≤ b → b ≤ a + 17 → m' b = m b) (H : IXt m a B R nR) : IXt m' a B R nR := by
  unfold IXt chA rgt at *
  rw [h a (by omega) (by omega), h (a + 11) (by omega) (by omega), h (a + 12) (by omega) (by omega), h (a + 13) (by omega) (by omega), h (a + 14) (by omega) (by omega), h (a + 15) (by omega) (by omega), h (a + 16) (by omega) (by omega), h (a + 17) (by omega) (by omega)]
  exact H
theorem IXt_stale {m m' : Nat → Nat → Int} {a : Nat} {B B' : BD} {R R' : GR} {nR nR' : Nat} (h0 : ∀ j, j ≠ 13 → m' a j = m a j) (h1 : m' (a + 11) = m (a + 11)) (h2 : m' (a + 12) = m (a + 12)) (h3 : m' a 13 = 1) (H : IXt m a B R nR) : IXt m' a B' R' nR' := by
  refine ⟨?_, fun q => absurd (h3.symm.trans q) (by decide)⟩
  have H := H.1
  unfold chA at *
  rw [h0 3 (by omega), h0 4 (by omega), h1, h2]
  exact H
theorem IXt_board {m : Nat → Nat → Int} {B B' : BD} {R : GR} {nR : Nat} (H : IXt m 213 B R nR) : IXt m 213 B' R nR := by
  refine ⟨H.1, fun q c hc => ?_⟩
  obtain ⟨h1, h2, h3⟩ := H.2 q c hc
  exact ⟨h1, h2, fun n hn hm => ⟨fun e => absurd e (by decide), (h3 n hn hm).2⟩⟩
theorem IMt_stale {m m' : Nat → Nat → Int} {B B' : BD} {R R' : GR} {nR nR' : Nat} (h4 : m' 294 = m 294) (h5 : m' 295 = m 295) (h6 : m' 296 = m 296) (h7 : m' 265 49 = 0) (h8 : m' 265 50 = 0) (H : IMt m nR R B) : IMt m' nR' R' B' := by
  refine ⟨?_, Or.inl h7, Or.inl h8⟩
  have H := H.1
  unfold tbd at *
  rw [h4, h5, h6]; exact H
theorem IMt_board {m m' : Nat → Nat → Int} {B B' : BD} {R : GR} {nR : Nat} (h3 : m' 293 = m 293) (h4 : m' 294 = m 294) (h5 : m' 295 = m 295) (h6 : m' 296 = m 296) (h7 : m' 265 49 = m 265 49) (h8 : m' 265 50 = 0) (H : IMt m nR R B) : IMt m' nR R B' := by
  have H' : IMt (up m 265 50 0) nR R B := by
    refine ⟨?_, ?_, Or.inl (up_s ..)⟩
    · have h := H.1
      unfold tbd at *
      rw [up_o' (show 296 ≠ 265 by decide), up_o' (show 294 ≠ 265 by decide), up_o' (show 295 ≠ 265 by decide)]; exact h
    · have h := H.2.1
      unfold dnT enV enB at *
      rw [up_k' (show 49 ≠ 50 by decide), up_o' (show 296 ≠ 265 by decide), up_o' (show 294 ≠ 265 by decide), up_o' (show 295 ≠ 265 by decide), up_o' (show 293 ≠ 265 by decide)]; exact h
  have H2 : IMt m' nR R B := IMt_same (by rw [h3, up_o' (by decide)]) (by rw [h4, up_o' (by decide)]) (by rw [h5, up_o' (by decide)]) (by rw [h6, up_o' (by decide)]) (by rw [h7, up_k' (by decide)]) (by rw [h8, up_s]) H'
  exact ⟨H2.1, H2.2.1, Or.inl h8⟩
theorem okG_snoc {n : Nat} {R : GR} {d : RD} (hG : okG n R) (hn : n < 40) (hd : okR d) : okG (n + 1) (snoc R n d) := by
  refine ⟨by omega, fun r hr => ?_⟩
  unfold snoc
  by_cases e : r = n
  · rw [if_pos e]; exact hd
  · rw [if_neg e]; exact hG.2 r (by omega)
theorem w120 : (1 : Int) ≤ 1 ∧ (1 : Int) ≤ 20 ∧ (20 : Int) ≤ 20 := by decide
theorem w04 : ((0 : Int) ≤ 0 ∧ (0 : Int) ≤ 4) ∧ ((0 : Int) ≤ 1 ∧ (1 : Int) ≤ 4) ∧ ((0 : Int) ≤ 2 ∧ (2 : Int) ≤ 4) ∧ ((0 : Int) ≤ 3 ∧ (3 : Int) ≤ 4) ∧ ((0 : Int) ≤ 4 ∧ (4 : Int) ≤ 4) := by decide
theorem okR_fill {n : Nat} {x1 x2 x3 : Int} (h : acFill n x1 x2 x3) : okR (dFill x1 x2 x3) := by
  obtain ⟨h1, h2, h3, -⟩ := h
  refine ⟨h1, w04.1, h3, w120, w120, fun _ => ⟨rfl, h2⟩, fun q => absurd rfl q, Nat.zero_le 6, fun q => absurd (show (3 : Int) ≤ 0 from q) (by decide), fun i hi => absurd hi (Nat.not_lt_zero i)⟩
theorem okR_split {n cn : Nat} {cp : Nat → PD} {x1 x2 x3 : Int} (hc : okC cn cp) (h : acSplit n cn x1 x3) : okR (dSplit x1 x2 x3 cn cp) := by
  obtain ⟨h1, h3, h4, -⟩ := h
  have hk : rk (dSplit x1 x2 x3 cn cp) = 1 ∨ rk (dSplit x1 x2 x3 cn cp) = 2 := by
    show (if x2 = 0 then (1 : Int) else 2) = 1 ∨ (if x2 = 0 then (1 : Int) else 2) = 2
    by_cases e : x2 = 0
    · rw [if_pos e]; exact Or.inl rfl
    · rw [if_neg e]; exact Or.inr rfl
  refine ⟨h1, by rcases hk with e | e <;> rw [e] <;> decide, h3, w120, w120, fun q => (by rcases hk with e | e <;> rw [e] at q <;> cases q), fun _ => ⟨rfl, by show 1 ≤ cn; omega⟩, hc.1, fun q => by rcases hk with e | e <;> rw [e] at q <;> exact absurd q (by decide), hc.2⟩
theorem okR_repeat {n : Nat} {x1 x2 x3 x4 x5 : Int} (h : acRepeat n x1 x2 x3 x5) : okR (dRepeat x1 x2 x3 x4 x5) := by
  obtain ⟨h1, h2, h3, h5, -⟩ := h
  have hk : rk (dRepeat x1 x2 x3 x4 x5) = 3 ∨ rk (dRepeat x1 x2 x3 x4 x5) = 4 := by
    show (if x4 = 0 then (3 : Int) else 4) = 3 ∨ (if x4 = 0 then (3 : Int) else 4) = 4
    by_cases e : x4 = 0
    · rw [if_pos e]; exact Or.inl rfl
    · rw [if_neg e]; exact Or.inr rfl
  refine ⟨h1, by rcases hk with e | e <;> rw [e] <;> decide, h5, w120, w120, fun q => (by rcases hk with e | e <;> rw [e] at q <;> cases q), fun _ => ⟨rfl, Nat.le_refl 1⟩, (show 1 ≤ 6 by decide), fun _ => ⟨rfl, rfl⟩, fun i _ => ⟨h2, h3.1, h3.2, fun q => by cases q⟩⟩
theorem okR_only {d : RD} {x2 x3 x4 : Int} (h : okR d) (h1 : 1 ≤ x3) (h2 : x3 ≤ x4) (h3 : x4 ≤ 20) : okR (dOnly d x2 x3 x4) := by
  obtain ⟨a1, a2, a3, a4, a5, a6⟩ := h
  unfold dOnly
  by_cases e : x2 = 0
  · rw [if_pos e]; exact ⟨a1, a2, a3, ⟨h1, h2, h3⟩, a5, a6⟩
  · rw [if_neg e]; exact ⟨a1, a2, a3, a4, ⟨h1, h2, h3⟩, a6⟩
theorem okG_upd {n r0 : Nat} {R : GR} {d : RD} (hG : okG n R) (hd : okR d) : okG n (upd1 R r0 d) := by
  refine ⟨hG.1, fun r hr => ?_⟩
  unfold upd1
  by_cases e : r = r0
  · rw [if_pos e]; exact hd
  · rw [if_neg e]; exact hG.2 r hr
theorem okC_snoc {cn : Nat} {cp : Nat → PD} {x1 x2 x3 : Int} (hc : okC cn cp) (h : acPart cn x1 x2 x3) : okC (cn + 1) (snoc cp cn (x1, x2, !(decide (x3 = 0)))) := by
  obtain ⟨h1, h2, h3⟩ := h
  refine ⟨by omega, fun i hi => ?_⟩
  unfold snoc
  by_cases e : i = cn
  · rw [if_pos e]
    refine ⟨h1, h2.1, ?_, fun q => ?_⟩
    · have := h2.2
      show x2 ≤ 20
      by_cases z : x3 = 0
      · rw [if_pos z] at this; exact this
      · rw [if_neg z] at this; omega
    · have := h2.2
      show x2 ≤ 9
      by_cases z : x3 = 0
      · have q : (!(decide (x3 = 0))) = true := q
        rw [decide_eq_true z] at q; cases q
      · rw [if_neg z] at this; exact this
  · rw [if_neg e]; exact hc.2 i (by omega)
theorem okF_front {n : Nat} {R : GR} {x1 x2 x3 : Int} (hG : okG n R) (h : isSc x2 x3) (h0 : (drawO n R x1 x2 x3).1 = 0) : okF (frontO x2 x3 (drawO n R x1 x2 x3)) := by
  refine ⟨Or.inr h, ((drawO_ok hG h).2 h0).1, fun p _ => ?_⟩
  show 0 ≤ ((drawO n R x1 x2 x3).2.2.2.2.2 p).getD 0 ∧ ((drawO n R x1 x2 x3).2.2.2.2.2 p).getD 0 ≤ 25
  rcases e : (drawO n R x1 x2 x3).2.2.2.2.2 p with _ | v
  · show (0 : Int) ≤ 0 ∧ (0 : Int) ≤ 25
    omega
  · exact drawO_cv hG p v e
