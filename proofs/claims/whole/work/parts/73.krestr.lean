/-! a knot of the fresh names alone, the others' ways as gains -/
theorem wplus_end {a b : Int} (ha : wOK a) (hb : wOK b) : wplus a b = -10 ↔ a = -10 ∨ b = -10 := by
  unfold wplus wOK at *
  split <;> omega
theorem wsum_end {a : Int} {g : Nat → Int} (ha : wOK a) : ∀ N, (∀ k, k < N → wOK (g k)) → (wsum a g N = -10 ↔ a = -10 ∨ ∃ k, k < N ∧ g k = -10) := by
  intro N
  induction N with
  | zero => exact fun _ => ⟨fun q => Or.inl q, fun q => q.elim id fun ⟨k, h, _⟩ => absurd h (Nat.not_lt_zero k)⟩
  | succ N ih =>
    intro hg
    have h1 := wsum_ok (n := N) ha fun k hk => hg k (by omega)
    show wplus (wsum a g N) (g N) = -10 ↔ _
    rw [wplus_end h1 (hg N (by omega)), ih fun k hk => hg k (by omega)]
    constructor
    · rintro ((q | ⟨k, hk, q⟩) | q)
      · exact Or.inl q
      · exact Or.inr ⟨k, by omega, q⟩
      · exact Or.inr ⟨N, by omega, q⟩
    · rintro (q | ⟨k, hk, q⟩)
      · exact Or.inl (Or.inl q)
      · by_cases e : k = N
        · rw [e] at q; exact Or.inr q
        · exact Or.inl (Or.inr ⟨k, by omega, q⟩)
theorem wsum_ne0 {a : Int} {g : Nat → Int} (ha : wOK a) : ∀ N, (∀ k, k < N → wOK (g k)) → (wsum a g N ≠ 0 ↔ a ≠ 0 ∨ ∃ k, k < N ∧ g k ≠ 0) := by
  intro N
  induction N with
  | zero => exact fun _ => ⟨fun q => Or.inl q, fun q => q.elim id fun ⟨k, h, _⟩ => absurd h (Nat.not_lt_zero k)⟩
  | succ N ih =>
    intro hg
    have h1 := wsum_ok (n := N) ha fun k hk => hg k (by omega)
    show wplus (wsum a g N) (g N) ≠ 0 ↔ _
    rw [wplus_ne h1 (hg N (by omega)), ih fun k hk => hg k (by omega)]
    constructor
    · rintro ((q | ⟨k, hk, q⟩) | q)
      · exact Or.inl q
      · exact Or.inr ⟨k, by omega, q⟩
      · exact Or.inr ⟨N, by omega, q⟩
    · rintro (q | ⟨k, hk, q⟩)
      · exact Or.inl (Or.inl q)
      · by_cases e : k = N
        · rw [e] at q; exact Or.inr q
        · exact Or.inl (Or.inr ⟨k, by omega, q⟩)
theorem wsum_base {a v : Int} {g : Nat → Int} (ha : wOK a) (hv : wOK v) : ∀ N, (∀ k, k < N → wOK (g k)) → wplus (wsum a g N) v = wsum (wplus a v) g N := by
  intro N
  induction N with
  | zero => exact fun _ => rfl
  | succ N ih =>
    intro hg
    have h1 := wsum_ok (n := N) ha fun k hk => hg k (by omega)
    show wplus (wplus (wsum a g N) (g N)) v = wplus (wsum (wplus a v) g N) (g N)
    rw [wplus_right h1 (hg N (by omega)) hv, ih fun k hk => hg k (by omega)]
theorem wsum_merge {a : Int} {g1 g2 : Nat → Int} (ha : wOK a) : ∀ N, (∀ k, k < N → wOK (g1 k) ∧ wOK (g2 k)) → wsum (wsum a g1 N) g2 N = wsum a (fun k => wplus (g1 k) (g2 k)) N := by
  intro N
  induction N with
  | zero => exact fun _ => rfl
  | succ N ih =>
    intro hg
    have h1 := wsum_ok (n := N) ha fun k hk => (hg k (by omega)).1
    have h2 := hg N (by omega)
    show wplus (wsum (wplus (wsum a g1 N) (g1 N)) g2 N) (g2 N) = wplus (wsum a (fun k => wplus (g1 k) (g2 k)) N) (wplus (g1 N) (g2 N))
    have h3 := wsum_ok (n := N) h1 fun k hk => (hg k (by omega)).2
    rw [← wsum_base h1 h2.1 N fun k hk => (hg k (by omega)).2, ih fun k hk => hg k (by omega)]
    rw [ih fun k hk => hg k (by omega)] at h3
    exact wplus_assoc h3 h2.1 h2.2
section RS
variable {L L' : Nat → Nat → Int} {b b' : Nat → Int} {F : Nat → Prop} {n m : Nat}
theorem rs_walk (hL' : ∀ n k, n < 8 → k < 8 → L' n k = cI (F n ∧ F k) (L n k) 0) (hm : F m) : ∀ c q, q < 8 → F q → wlk L c q m → wlk L' c q m ∨ ∃ s q' k u, wlk L' s q q' ∧ q' < 8 ∧ F q' ∧ k < 8 ∧ ¬ F k ∧ 0 < L q' k ∧ wlk L u k m := by
  intro c
  induction c with
  | zero => exact fun q _ _ h => Or.inl h
  | succ c ih =>
    rintro q hq hF ⟨k, hk, hl, hw⟩
    by_cases z : F k
    · have hl' : 0 < L' q k := by rw [hL' q k hq hk, cI_t ⟨hF, z⟩]; exact hl
      rcases ih k hk z hw with h | ⟨s, q', k', u, h1, h2⟩
      · exact Or.inl ⟨k, hk, hl', h⟩
      · exact Or.inr ⟨s + 1, q', k', u, ⟨k, hk, hl', h1⟩, h2⟩
    · exact Or.inr ⟨0, q, k, c, rfl, hq, hF, hk, z, hl, hw⟩
theorem rs_back (hL' : ∀ n k, n < 8 → k < 8 → L' n k = cI (F n ∧ F k) (L n k) 0) : ∀ c q, q < 8 → wlk L' c q m → wlk L c q m := by
  intro c
  induction c with
  | zero => exact fun q _ h => h
  | succ c ih =>
    rintro q hq ⟨k, hk, hl, hw⟩
    refine ⟨k, hk, ?_, ih k hk hw⟩
    rw [hL' q k hq hk] at hl
    by_cases z : F q ∧ F k
    · rw [cI_t z] at hl; exact hl
    · rw [cI_f z] at hl; exact absurd hl (Int.lt_irrefl 0)
theorem rs_F (hL' : ∀ n k, n < 8 → k < 8 → L' n k = cI (F n ∧ F k) (L n k) 0) : ∀ c q, q < 8 → F q → wlk L' c q m → F m := by
  intro c
  induction c with
  | zero => exact fun q _ hF h => (show q = m from h) ▸ hF
  | succ c ih =>
    rintro q hq hF ⟨k, hk, hl, hw⟩
    rw [hL' q k hq hk] at hl
    by_cases z : F q ∧ F k
    · exact ih k hk z.2 hw
    · rw [cI_f z] at hl; exact absurd hl (Int.lt_irrefl 0)
theorem rs_all (hb : ∀ n, n < 8 → wOK (b n)) (hL : ∀ n k, 0 ≤ L n k ∧ L n k ≤ 40) (hLn : ∀ n k, 0 ≤ L' n k) (hL' : ∀ n k, n < 8 → k < 8 → L' n k = cI (F n ∧ F k) (L n k) 0) (hb' : ∀ n, n < 8 → F n → b' n = wsum (b n) (fun k => cI (F k) 0 (wmult (L n k) (wS L b k))) 8) (hb0 : ∀ n, n < 8 → ¬ F n → b' n = 0) (hn : n < 8) (hF : F n) : wS L' b' n = wS L b n := by
  have hLk : ∀ n k, n < 8 → k < 8 → wOK (L n k) := fun n k _ _ => Or.inr ⟨(hL n k).1, by have := (hL n k).2; omega⟩
  have hLz : ∀ n k, 0 ≤ L n k := fun n k => (hL n k).1
  have okV : ∀ k, k < 8 → wOK (wS L b k) := fun k hk => wS_ok hb hLk hk
  have okT : ∀ n, n < 8 → ∀ k, k < 8 → wOK (wmult (L n k) (wS L b k)) := fun n hn k hk => wOK_mult (hLk n k hn hk) (okV k hk)
  have okG : ∀ n, n < 8 → ∀ k, k < 8 → wOK (cI (F k) 0 (wmult (L n k) (wS L b k))) := fun n hn k hk => by
    by_cases z : F k
    · rw [cI_t z]; exact wOK_0
    · rw [cI_f z]; exact okT n hn k hk
  have okb' : ∀ n, n < 8 → wOK (b' n) := fun n hn => by
    by_cases z : F n
    · rw [hb' n hn z]; exact wsum_ok (hb n hn) (okG n hn)
    · rw [hb0 n hn z]; exact wOK_0
  have mt : ∀ n k, n < 8 → k < 8 → wmult (L n k) (wS L b k) = -10 → 0 < L n k ∧ wS L b k = -10 := fun n k hn hk h => by
    have h1 := hL n k
    have h2 := okV k hk
    unfold wOK at h2
    have h3 : wmult (L n k) (wS L b k) ≠ 0 := by omega
    obtain ⟨h4, h5⟩ := wmult_ne.1 h3
    refine ⟨by omega, ?_⟩
    refine Classical.byContradiction fun q => ?_
    have := wmult_nn (a := L n k) (b := wS L b k) h1.1 (by omega)
    omega
  have vend : ∀ k, k < 8 → wS L b k = -10 → endP L b k := fun k hk h => Classical.byContradiction fun q => by
    have := wS_nn hb hLz hk q
    omega
  -- what a way out of the fresh names brings
  have out : ∀ q k, q < 8 → F q → k < 8 → ¬ F k → 0 < L q k → endP L b k → b' q = -10 := fun q k hq hFq hk hFk hl he => by
    rw [hb' q hq hFq, wsum_end (hb q hq) 8 (okG q hq)]
    refine Or.inr ⟨k, hk, ?_⟩
    rw [cI_f hFk, (wS_eq hb hLz k hk).1 he]
    unfold wmult
    rw [if_neg (by omega), if_pos (by omega)]
  have made1 : ∀ t q m, q < 8 → F q → wlk L t q m → b m ≠ 0 → madeP L' b' q := by
    intro t
    induction t with
    | zero =>
      intro q m hq hFq hw hm
      have e : q = m := hw
      subst e
      refine ⟨0, q, rfl, ?_⟩
      rw [hb' q hq hFq, wsum_ne0 (hb q hq) 8 (okG q hq)]
      exact Or.inl hm
    | succ t ih =>
      rintro q m hq hFq ⟨k, hk, hl, hw⟩ hm
      by_cases z : F k
      · have hl' : 0 < L' q k := by rw [hL' q k hq hk, cI_t ⟨hFq, z⟩]; exact hl
        exact made_back (wlk_1 hk hl') (ih k m hk z hw hm)
      · refine ⟨0, q, rfl, ?_⟩
        rw [hb' q hq hFq, wsum_ne0 (hb q hq) 8 (okG q hq)]
        refine Or.inr ⟨k, hk, ?_⟩
        rw [cI_f z, wmult_ne]
        exact ⟨by omega, (wS_ne0 hb hLz hk).2 ⟨t, m, hw, hm⟩⟩
  have made2 : ∀ q, q < 8 → F q → madeP L' b' q → madeP L b q := by
    rintro q hq hFq ⟨t, m, hw, hm⟩
    have hFm := rs_F hL' t q hq hFq hw
    have hm8 := wlk_lt hq hw
    refine made_back (rs_back hL' t q hq hw) ?_
    rw [hb' m hm8 hFm, wsum_ne0 (hb m hm8) 8 (okG m hm8)] at hm
    rcases hm with hm | ⟨k, hk, hm⟩
    · exact ⟨0, m, rfl, hm⟩
    · by_cases z : F k
      · rw [cI_t z] at hm; exact absurd rfl hm
      · rw [cI_f z, wmult_ne] at hm
        have := hL m k
        exact made_back (wlk_1 hk (by omega)) ((wS_ne0 hb hLz hk).1 hm.2)
  have end2 : ∀ q, q < 8 → F q → endP L' b' q → endP L b q := by
    rintro q hq hFq ⟨t, m, hw, hm⟩
    have hFm := rs_F hL' t q hq hFq hw
    have hm8 := wlk_lt hq hw
    refine end_back (rs_back hL' t q hq hw) ?_
    rcases hm with hm | ⟨h1, c, h2⟩
    · rw [hb' m hm8 hFm, wsum_end (hb m hm8) 8 (okG m hm8)] at hm
      rcases hm with hm | ⟨k, hk, hm⟩
      · exact ⟨0, m, rfl, Or.inl hm⟩
      · by_cases z : F k
        · rw [cI_t z] at hm; exact absurd hm (by decide)
        · rw [cI_f z] at hm
          obtain ⟨g1, g2⟩ := mt m k hm8 hk hm
          exact end_back (wlk_1 hk g1) (vend k hk g2)
    · exact ⟨0, m, rfl, Or.inr ⟨made2 m hm8 hFm h1, c, rs_back hL' (c + 1) m hm8 h2⟩⟩
  have end1 : ∀ t q m, q < 8 → F q → wlk L t q m → (b m = -10 ∨ (madeP L b m ∧ ∃ c, wlk L (c + 1) m m)) → endP L' b' q := by
    intro t
    induction t with
    | zero =>
      intro q m hq hFq hw hm
      have e : q = m := hw
      subst e
      rcases hm with hm | ⟨h1, c, h2⟩
      · refine ⟨0, q, rfl, Or.inl ?_⟩
        rw [hb' q hq hFq, wsum_end (hb q hq) 8 (okG q hq)]
        exact Or.inl hm
      · rcases rs_walk hL' hFq (c + 1) q hq hFq h2 with h3 | ⟨s, q', k, u, h3, h4, h5, h6, h7, h8, h9⟩
        · obtain ⟨t', m', h4, h5⟩ := h1
          exact ⟨0, q, rfl, Or.inr ⟨made1 t' q m' hq hFq h4 h5, c, h3⟩⟩
        · exact ⟨s, q', h3, Or.inl (out q' k h4 h5 h6 h7 h8 (end_back h9 ⟨0, q, rfl, Or.inr ⟨h1, c, h2⟩⟩))⟩
    | succ t ih =>
      rintro q m hq hFq ⟨k, hk, hl, hw⟩ hm
      by_cases z : F k
      · have hl' : 0 < L' q k := by rw [hL' q k hq hk, cI_t ⟨hFq, z⟩]; exact hl
        exact end_back (wlk_1 hk hl') (ih k m hk z hw hm)
      · exact ⟨0, q, rfl, Or.inl (out q k hq hFq hk z hl ⟨t, m, hw, hm⟩)⟩
  have hU : wEq L' b' (fun n => cI (F n) (wS L b n) 0) := by
    intro q hq
    by_cases hFq : F q
    · have e1 : cI (F q) (wS L b q) 0 = wS L b q := cI_t hFq
      refine ⟨fun h => ?_, fun h => ?_, fun h => ?_⟩
      · show cI (F q) (wS L b q) 0 = _
        rw [e1]; exact (wS_eq hb hLz q hq).1 (end2 q hq hFq h)
      · show cI (F q) (wS L b q) 0 = _
        rw [e1]
        refine (wS_eq hb hLz q hq).2.1 fun ⟨t, m, h1, h2⟩ => h (made1 t q m hq hFq h1 h2)
      · show cI (F q) (wS L b q) 0 = wsum (b' q) (fun k => wmult (L' q k) (cI (F k) (wS L b k) 0)) 8
        have hE : ¬ endP L b q := fun ⟨t, m, h1, h2⟩ => h (end1 t q m hq hFq h1 h2)
        have okR : ∀ k, k < 8 → wOK (wmult (L' q k) (cI (F k) (wS L b k) 0)) := fun k hk => by
          rw [hL' q k hq hk]
          by_cases z : F k
          · rw [cI_t ⟨hFq, z⟩, cI_t z]; exact okT q hq k hk
          · rw [cI_f fun y => z y.2, wmult_0l]; exact wOK_0
        rw [e1, (wS_eq hb hLz q hq).2.2 hE, hb' q hq hFq, wsum_merge (hb q hq) 8 fun k hk => ⟨okG q hq k hk, okR k hk⟩]
        refine wsum_congr fun k hk => ?_
        show wmult (L q k) (wS L b k) = wplus (cI (F k) 0 (wmult (L q k) (wS L b k))) (wmult (L' q k) (cI (F k) (wS L b k) 0))
        rw [hL' q k hq hk]
        by_cases z : F k
        · rw [cI_t z, cI_t ⟨hFq, z⟩, cI_t z, wplus_comm, wplus_0 (okT q hq k hk)]
        · rw [cI_f z, cI_f fun y => z y.2, wmult_0l, wplus_0 (okT q hq k hk)]
    · have e1 : cI (F q) (wS L b q) 0 = 0 := cI_f hFq
      have hl0 : ∀ k, k < 8 → L' q k = 0 := fun k hk => by rw [hL' q k hq hk, cI_f fun y => hFq y.1]
      have hw0 : ∀ t m, wlk L' t q m → q = m := fun t m hw => by
        cases t with
        | zero => exact hw
        | succ t =>
          obtain ⟨k, hk, hl, -⟩ := hw
          have := hl0 k hk; omega
      have hnm : ¬ madeP L' b' q := fun ⟨t, m, h1, h2⟩ => by
        rw [← hw0 t m h1] at h2
        exact h2 (hb0 q hq hFq)
      refine ⟨fun h => absurd (end_made h) hnm, fun _ => e1, fun _ => ?_⟩
      show cI (F q) (wS L b q) 0 = wsum (b' q) (fun k => wmult (L' q k) (cI (F k) (wS L b k) 0)) 8
      rw [e1, wsum_0 (okb' q hq) fun k hk => by
        show wmult (L' q k) _ = 0
        rw [hl0 k hk, wmult_0l]]
      exact (hb0 q hq hFq).symm
  have := wEq_uniq hLn (wS_eq okb' hLn) hU hn
  rw [this]
  exact cI_t hF
end RS
