/-! the reference's isEndless, sum -/
theorem wmult_nn {a b : Int} (ha : 0 ≤ a) (hb : 0 ≤ b) : 0 ≤ wmult a b := by
  unfold wmult
  split
  · exact Int.le_refl 0
  · have : 0 ≤ a * b := Int.mul_nonneg ha hb
    rw [if_neg (by omega)]
    omega
theorem wplus_nn {a b : Int} (ha : 0 ≤ a) (hb : 0 ≤ b) : 0 ≤ wplus a b := by
  unfold wplus
  rw [if_neg (by omega)]
  omega
theorem wsum_nn {a : Int} {g : Nat → Int} {n : Nat} (ha : 0 ≤ a) (hg : ∀ k, k < n → 0 ≤ g k) : 0 ≤ wsum a g n := by
  induction n with
  | zero => exact ha
  | succ n ih => exact wplus_nn (ih fun k hk => hg k (by omega)) (hg n (by omega))
def wN (L : Nat → Nat → Int) (b : Nat → Int) (t n : Nat) : Prop := ∀ m, wlk L t n m → ¬ madeP L b m
def sP (L : Nat → Nat → Int) (b : Nat → Int) (t n : Nat) (u : Int) : Prop := (endP L b n → u = -10) ∧ (¬ madeP L b n → u = 0) ∧ (¬ endP L b n → 0 ≤ u) ∧ wOK u ∧ (¬ endP L b n → wN L b t n → u = wS L b n)
theorem wN_succ {L : Nat → Nat → Int} {b : Nat → Int} {t n : Nat} (h : wN L b t n) : wN L b (t + 1) n := by
  intro m hw hm
  obtain ⟨f, f0, ft, fs⟩ := wlk_fun hw
  have h1 := wlk_of (L := L) (f := f) (s := 0) (c := t) fun k _ hk => fs k (by omega)
  have h2 := wlk_of (L := L) (f := f) (s := t) (c := 1) fun k _ hk => fs k (by omega)
  rw [f0, Nat.zero_add] at h1
  rw [ft] at h2
  exact h (f t) h1 (made_back h2 hm)
theorem sP_down {L : Nat → Nat → Int} {b : Nat → Int} {t n : Nat} {u : Int} (h : sP L b (t + 1) n u) : sP L b t n u := ⟨h.1, h.2.1, h.2.2.1, h.2.2.2.1, fun q1 q2 => h.2.2.2.2 q1 (wN_succ q2)⟩
theorem sP_new {L : Nat → Nat → Int} {b : Nat → Int} {t n : Nat} {U : Nat → Int} (hb : ∀ n, n < 8 → wOK (b n)) (hL : ∀ n k, 0 ≤ L n k ∧ L n k ≤ 40) (hn : n < 8) (hE : ¬ endP L b n) (hM : madeP L b n) (hU : ∀ k, k < 8 → sP L b t k (U k)) : sP L b (t + 1) n (wsum (b n) (fun k => wmult (L n k) (U k)) 8) := by
  have hLk : ∀ k, k < 8 → L n k ≠ 0 → ¬ endP L b k := fun k hk q z => hE (end_back (wlk_1 hk (by have := hL n k; omega)) z)
  have hbn : 0 ≤ b n := by
    rcases hb n hn with q | q
    · exact absurd ⟨0, n, rfl, Or.inl q⟩ hE
    · exact q.1
  have hnn : 0 ≤ wsum (b n) (fun k => wmult (L n k) (U k)) 8 := wsum_nn hbn fun k hk => by
    show 0 ≤ wmult (L n k) (U k)
    by_cases q : L n k = 0
    · rw [q, wmult_0l]; exact Int.le_refl 0
    · exact wmult_nn (hL n k).1 ((hU k hk).2.2.1 (hLk k hk q))
  refine ⟨fun q => absurd q hE, fun q => absurd hM q, fun _ => hnn, ?_, fun _ hw => ?_⟩
  · exact wsum_ok (hb n hn) fun k hk => wOK_mult (Or.inr ⟨(hL n k).1, by have := (hL n k).2; omega⟩) (hU k hk).2.2.2.1
  · rw [(wS_eq hb (fun n k => (hL n k).1) n hn).2.2 hE]
    refine wsum_congr fun k hk => ?_
    show wmult (L n k) (U k) = wmult (L n k) (wS L b k)
    by_cases q : L n k = 0
    · rw [q, wmult_0l, wmult_0l]
    · have hl := hL n k
      rw [(hU k hk).2.2.2.2 (hLk k hk q) fun m hm z => hw m ⟨k, hk, by omega, hm⟩ z]
theorem sP_8 {L : Nat → Nat → Int} {b : Nat → Int} {n : Nat} {u : Int} (hn : n < 8) (h : sP L b 8 n u) : u = wS L b n := by
  by_cases q : endP L b n
  · rw [h.1 q]; unfold wS; rw [cI_t q]
  · exact h.2.2.2.2 q fun m hw hm => q (end_8 hn hw hm)
section SM
variable {sh : List (Nat × Nat)} {ν : Nat → Nat → Option Nat} {μ : Nat → Nat → Int} {f s : Nat} {Q : xQ} {L : Nat → Nat → Int} {b : Nat → Int}
theorem c_X10_isEndless (hW : WF sh ν f s) (hK : ∀ n, n < 8 → μ 297 n = b n) (hr : ∀ i, i < 64 → (μ 300 i ≠ 0 ↔ rch L b 8 (i / 8) (i % 8))) (hb : ∀ n, n < 8 → wOK (b n)) {n : Nat} (hn : n < 8) (hM : madeP L b n)
    (k : ∀ v : Int, (v ≠ 0 ↔ endP L b n) → Q (some (vI v)) sh ν μ) : X mX10_isEndless 0 [(0, vR 265), (1, vI (n : Nat))] [] sh ν μ 0 0 Q := by
  have hrk : ∀ m j, m < 8 → j < 8 → (μ 300 (8 * m + j) ≠ 0 ↔ rch L b 8 m j) := fun m j hm hj => by
    obtain ⟨a1, a2, a3⟩ := nk88 hm hj
    have := hr (8 * m + j) a3
    rw [a1, a2] at this; exact this
  let A : Nat → Prop := fun i => (b n < 0 ∨ rch L b 8 n n) ∨ ∃ k, k < i ∧ rch L b 8 n k ∧ (b k < 0 ∨ rch L b 8 k k)
  have h31 : X mX10_isEndless 31 [(0, vR 265), (1, vI (n : Nat)), (2, vI (cI (A 0) 1 0)), (3, vI 0)] [] sh ν μ 0 0 Q := by
    have key := loop_up 8 (fun (i : Nat) (m : Nat → Nat → Int) => m = μ) (fun i m => X mX10_isEndless 31 [(0, vR 265), (1, vI (n : Nat)), (2, vI (cI (A i) 1 0)), (3, vI (i : Nat))] [] sh ν m 0 0 Q) ?_ ?_ 0 μ (Nat.zero_le _) rfl
    · exact key
    · rintro m hm
      rw [hm]
      refine g_X10_isEndless_31 hW ⟨fun _ => ?_, fun q => absurd q (by omega)⟩
      have e : A 8 ↔ endP L b n := by
        refine Iff.trans ?_ (endP_iff hb hn hM).symm
        exact Iff.rfl
      by_cases q : A 8
      · rw [cI_t q]; exact ⟨Or.inr rfl, k 1 ⟨fun _ => e.1 q, fun _ => by decide⟩⟩
      · rw [cI_f q]; exact ⟨Or.inl rfl, k 0 ⟨fun z => absurd rfl z, fun z => absurd (e.2 z) q⟩⟩
    · rintro i m hi hm ih
      rw [hm]
      have h83 : ∀ y : Int, y = cI (A (i + 1)) 1 0 → X mX10_isEndless 83 [(0, vR 265), (1, vI (n : Nat)), (3, vI (i : Nat))] [vI y] sh ν μ 0 0 Q := by
        rintro _ rfl
        refine g_X10_isEndless_83 hW ?_
        rw [wi1 (by omega)]
        exact ih μ rfl
      have yes : A (i + 1) → X mX10_isEndless 78 [(0, vR 265), (1, vI (n : Nat)), (3, vI (i : Nat))] [] sh ν μ 0 0 Q := fun q => g_X10_isEndless_78 hW (h83 1 (by rw [cI_t q]))
      have no : ¬ A (i + 1) → X mX10_isEndless 82 [(0, vR 265), (1, vI (n : Nat)), (3, vI (i : Nat))] [] sh ν μ 0 0 Q := fun q => g_X10_isEndless_82 hW (h83 0 (by rw [cI_f q]))
      have step : A (i + 1) ↔ A i ∨ (rch L b 8 n i ∧ (b i < 0 ∨ rch L b 8 i i)) := by
        constructor
        · rintro (q | ⟨k, hk, q⟩)
          · exact Or.inl (Or.inl q)
          · by_cases e : k = i
            · subst e; exact Or.inr q
            · exact Or.inl (Or.inr ⟨k, by omega, q⟩)
        · rintro ((q | ⟨k, hk, q⟩) | q)
          · exact Or.inl q
          · exact Or.inr ⟨k, by omega, q⟩
          · exact Or.inr ⟨i, by omega, q⟩
      obtain ⟨-, -, a3⟩ := nk88 hn hi
      obtain ⟨-, -, b3⟩ := nk88 hi hi
      refine g_X10_isEndless_31 hW ⟨fun q => absurd q (by omega), fun _ => ?_⟩
      rw [ix8' hn hi, ix9 hi, Int.toNat_natCast, Int.toNat_natCast, Int.toNat_natCast, hK i hi]
      by_cases qa : A i
      · rw [cI_t qa]
        exact ⟨fun _ => yes (step.2 (Or.inl qa)), fun q => absurd q (by decide)⟩
      · rw [cI_f qa]
        refine ⟨fun q => absurd rfl q, fun _ => ⟨tI a3, fun q => no fun z => ?_, fun q => ⟨tI hi, fun q2 => yes (step.2 (Or.inr ⟨(hrk n i hn hi).1 q, Or.inl q2⟩)), fun q2 => ⟨tI b3, fun q3 => no fun z => ?_, fun q3 => yes (step.2 (Or.inr ⟨(hrk n i hn hi).1 q, Or.inr ((hrk i i hi hi).1 q3)⟩))⟩⟩⟩⟩
        · rcases step.1 z with z | ⟨z, -⟩
          · exact qa z
          · exact absurd q ((hrk n i hn hi).2 z)
        · rcases step.1 z with z | ⟨-, z | z⟩
          · exact qa z
          · exact absurd z (Int.not_lt.2 q2)
          · exact absurd q3 ((hrk i i hi hi).2 z)
  have a0 : A 0 ↔ (b n < 0 ∨ rch L b 8 n n) := ⟨fun q => q.elim id fun ⟨k, hk, _⟩ => absurd hk (Nat.not_lt_zero k), Or.inl⟩
  obtain ⟨-, -, b3⟩ := nk88 hn hn
  have h28 : ∀ y : Int, y = cI (A 0) 1 0 → X mX10_isEndless 28 [(0, vR 265), (1, vI (n : Nat))] [vI y] sh ν μ 0 0 Q := by
    rintro _ rfl
    exact g_X10_isEndless_28 hW h31
  refine g_X10_isEndless_0 hW ?_
  rw [ix9 hn, Int.toNat_natCast, Int.toNat_natCast, hK n hn]
  refine ⟨tI hn, fun q => g_X10_isEndless_23 hW (h28 1 (by rw [cI_t (a0.2 (Or.inl q))])), fun q => ⟨tI b3, fun q2 => h28 0 ?_, fun q2 => g_X10_isEndless_23 hW (h28 1 (by rw [cI_t (a0.2 (Or.inr ((hrk n n hn hn).1 q2)))]))⟩⟩
  refine (cI_f fun z => ?_).symm
  rcases a0.1 z with z | z
  · exact absurd z (Int.not_lt.2 q)
  · exact absurd q2 ((hrk n n hn hn).2 z)
theorem c_X10_sum (hW : WF sh ν f s) (hK : knM μ L b) (hb : ∀ n, n < 8 → wOK (b n)) (hL : ∀ n k, 0 ≤ L n k ∧ L n k ≤ 40) {p : Nat} (hp : p + 8 ≤ 55688)
    (k : ∀ μ' : Nat → Nat → Int, (∀ n, n < 8 → μ' 293 (p + n) = wS L b n) → (∀ j, ¬ (p ≤ j ∧ j < p + 8) → μ' 293 j = μ 293 j) → (∀ c, c ≠ 293 → c ≠ 299 → c ≠ 300 → μ' c = μ c) → Q none sh ν μ') : X mX10_sum 0 [(0, vR 265), (1, vI (p : Nat))] [] sh ν μ 0 0 Q := by
  have pn : ∀ n : Nat, n < 8 → w32 ((p : Int) + (n : Int)) = ((p + n : Nat) : Int) := fun n hn => by rw [w32_id (by omega) (by omega)]; omega
  have pI : ∀ n : Nat, n < 8 → 0 ≤ ((p + n : Nat) : Int) ∧ ((p + n : Nat) : Int) < (55688 : Nat) := fun n hn => by omega
  have hL' : ∀ n k, n < 8 → k < 8 → wOK (L n k) := fun n k _ _ => Or.inr ⟨(hL n k).1, by have := (hL n k).2; omega⟩
  refine g_X10_sum_0 hW ?_
  refine c_X10_findMade hW hK fun m0 r1 r2 r3 => ?_
  refine g_X10_sum_4 hW ?_
  have hK0 : ∀ n, n < 8 → m0 297 n = b n := fun n hn => by rw [r3 297 (by decide) (by decide)]; exact hK.1 n hn
  have h52 : ∀ m1 : Nat → Nat → Int, (∀ n, n < 8 → sP L b 0 n (m1 293 (p + n))) → (∀ j, ¬ (p ≤ j ∧ j < p + 8) → m1 293 j = m0 293 j) → (∀ c, c ≠ 293 → m1 c = m0 c) → X mX10_sum 52 [(0, vR 265), (1, vI (p : Nat)), (2, vI 0)] [] sh ν m1 0 0 Q := by
    intro m1 z1 z2 z3
    have key := loop_up 8 (fun (t : Nat) (m : Nat → Nat → Int) => (∀ n, n < 8 → sP L b t n (m 293 (p + n))) ∧ (∀ j, ¬ (p ≤ j ∧ j < p + 8) → m 293 j = m0 293 j) ∧ ∀ c, c ≠ 293 → m c = m0 c) (fun t m => X mX10_sum 52 [(0, vR 265), (1, vI (p : Nat)), (2, vI (t : Nat))] [] sh ν m 0 0 Q) ?_ ?_ 0 m1 (Nat.zero_le _) ⟨z1, z2, z3⟩
    · exact key
    · rintro m ⟨g1, g2, g3⟩
      exact g_X10_sum_52 hW ⟨fun _ => k m (fun n hn => sP_8 hn (g1 n hn)) (fun j hj => by rw [g2 j hj, r3 293 (by decide) (by decide)]) fun c c0 c1 c2 => by rw [g3 c c0, r3 c c1 c2], fun q => absurd q (by omega)⟩
    · rintro t m ht ⟨g1, g2, g3⟩ ih
      refine g_X10_sum_52 hW ⟨fun q => absurd q (by omega), fun _ => ?_⟩
      have key2 := loop_up 8 (fun (j : Nat) (m' : Nat → Nat → Int) => (∀ n, n < 8 → (n < j → sP L b (t + 1) n (m' 293 (p + n))) ∧ sP L b t n (m' 293 (p + n))) ∧ (∀ j, ¬ (p ≤ j ∧ j < p + 8) → m' 293 j = m0 293 j) ∧ ∀ c, c ≠ 293 → m' c = m0 c) (fun j m' => X mX10_sum 60 [(0, vR 265), (1, vI (p : Nat)), (2, vI (t : Nat)), (3, vI (j : Nat))] [] sh ν m' 0 0 Q) ?_ ?_ 0 m (Nat.zero_le _) ⟨fun n hn => ⟨fun q => absurd q (Nat.not_lt_zero n), g1 n hn⟩, g2, g3⟩
      · exact key2
      · rintro m' ⟨u1, u2, u3⟩
        refine g_X10_sum_60 hW ⟨fun _ => ?_, fun q => absurd q (by omega)⟩
        rw [wi1 (by omega)]
        exact ih m' ⟨fun n hn => (u1 n hn).1 hn, u2, u3⟩
      · rintro j m' hj ⟨u1, u2, u3⟩ ih2
        have h154 : ∀ m2 : Nat → Nat → Int, (∀ n, n < 8 → (n < j + 1 → sP L b (t + 1) n (m2 293 (p + n))) ∧ sP L b t n (m2 293 (p + n))) → (∀ j, ¬ (p ≤ j ∧ j < p + 8) → m2 293 j = m0 293 j) → (∀ c, c ≠ 293 → m2 c = m0 c) → X mX10_sum 154 [(0, vR 265), (1, vI (p : Nat)), (2, vI (t : Nat)), (3, vI (j : Nat))] [] sh ν m2 0 0 Q := by
          intro m2 y1 y2 y3
          refine g_X10_sum_154 hW ?_
          rw [wi1 (by omega)]
          exact ih2 m2 ⟨y1, y2, y3⟩
        have keep : sP L b (t + 1) j (m' 293 (p + j)) → X mX10_sum 154 [(0, vR 265), (1, vI (p : Nat)), (2, vI (t : Nat)), (3, vI (j : Nat))] [] sh ν m' 0 0 Q := fun hj2 => h154 m' (fun n hn => ⟨fun q => by
          by_cases e : n = j
          · rw [e]; exact hj2
          · exact (u1 n hn).1 (by omega), (u1 n hn).2⟩) u2 u3
        have uj := (u1 j hj).2
        refine g_X10_sum_60 hW ⟨fun q => absurd q (by omega), fun _ => ?_⟩
        rw [pn j hj, Int.toNat_natCast, Int.toNat_natCast, u3 299 (by decide), u3 297 (by decide), hK0 j hj]
        refine ⟨pI j hj, fun q => keep ?_, fun q => ⟨tI hj, fun q2 => keep ?_, fun q2 => ⟨tI hj, ?_⟩⟩⟩
        · have hE : endP L b j := Classical.byContradiction fun z => absurd (uj.2.2.1 z) (Int.not_le.2 q)
          exact ⟨uj.1, uj.2.1, uj.2.2.1, uj.2.2.2.1, fun z => absurd hE z⟩
        · have hM : ¬ madeP L b j := fun z => (r1 j hj).2 z q2
          exact ⟨uj.1, uj.2.1, uj.2.2.1, uj.2.2.2.1, fun z _ => by rw [uj.2.1 hM, (wS_eq hb (fun n k => (hL n k).1) j hj).2.1 hM]⟩
        · have hM : madeP L b j := (r1 j hj).1 q2
          have hE : ¬ endP L b j := fun z => by have := uj.1 z; omega
          have hnew := sP_new hb hL hj hE hM (U := fun k => m' 293 (p + k)) fun k hk => (u1 k hk).2
          have key3 := loop_up 8 (fun (i : Nat) (m2 : Nat → Nat → Int) => m2 = m') (fun i m2 => X mX10_sum 99 [(0, vR 265), (1, vI (p : Nat)), (2, vI (t : Nat)), (3, vI (j : Nat)), (4, vL (wsum (b j) (fun k => wmult (L j k) (m' 293 (p + k))) i)), (6, vI (i : Nat))] [] sh ν m2 0 0 Q) ?_ ?_ 0 m' (Nat.zero_le _) rfl
          · exact key3
          · rintro m2 hm2
            rw [hm2]
            refine g_X10_sum_99 hW ⟨fun _ => ?_, fun q => absurd q (by omega)⟩
            rw [pn j hj, Int.toNat_natCast]
            refine ⟨pI j hj, h154 _ (fun n hn => ?_) (fun i hi => ?_) fun c hc => by rw [up_o' hc]; exact u3 c hc⟩
            · by_cases e : n = j
              · rw [e, up_s]; exact ⟨fun _ => hnew, sP_down hnew⟩
              · rw [up_k' (show p + n ≠ p + j by omega)]
                exact ⟨fun q => (u1 n hn).1 (by omega), (u1 n hn).2⟩
            · rw [up_k' (show i ≠ p + j by omega)]; exact u2 i hi
          · rintro i m2 hi hm2 ih3
            rw [hm2]
            refine g_X10_sum_99 hW ⟨fun q => absurd q (by omega), fun _ => ?_⟩
            rw [ix8' hj hi, pn i hi, Int.toNat_natCast, Int.toNat_natCast, wi1 (by omega), show m' 298 (8 * j + i) = L j i by rw [u3 298 (by decide), r3 298 (by decide) (by decide)]; exact hK.2 j i hj hi]
            have ok1 := hL' j i hj hi
            have ok2 := (u1 i hi).2.2.2.2.1
            have ok3 : wOK (wsum (b j) (fun k => wmult (L j k) (m' 293 (p + k))) i) := wsum_ok (hb j hj) fun k hk => wOK_mult (hL' j k hj (by omega)) (u1 k (by omega)).2.2.2.2.1
            exact ⟨tI (nk88 hj hi).2.2, pI i hi, ok1, ok2, ok3, wOK_mult ok1 ok2, ih3 m' rfl⟩
  have key := loop_up 8 (fun (i : Nat) (m : Nat → Nat → Int) => (∀ n, n < i → m 293 (p + n) = cI (endP L b n) (-10) 0) ∧ (∀ j, ¬ (p ≤ j ∧ j < p + 8) → m 293 j = m0 293 j) ∧ ∀ c, c ≠ 293 → m c = m0 c) (fun i m => X mX10_sum 6 [(0, vR 265), (1, vI (p : Nat)), (2, vI (i : Nat))] [] sh ν m 0 0 Q) ?_ ?_ 0 m0 (Nat.zero_le _) ⟨fun n hn => absurd hn (Nat.not_lt_zero n), fun _ _ => rfl, fun _ _ => rfl⟩
  · exact key
  · rintro m ⟨g1, g2, g3⟩
    refine g_X10_sum_6 hW ⟨fun _ => h52 m (fun n hn => ?_) g2 g3, fun q => absurd q (by omega)⟩
    rw [g1 n hn]
    by_cases q : endP L b n
    · rw [cI_t q]
      exact ⟨fun _ => rfl, fun z => absurd (end_made q) z, fun z => absurd q z, Or.inl rfl, fun z => absurd q z⟩
    · rw [cI_f q]
      exact ⟨fun z => absurd z q, fun _ => rfl, fun _ => Int.le_refl 0, wOK_0, fun _ hw => by
        have hM : ¬ madeP L b n := hw n rfl
        rw [(wS_eq hb (fun n k => (hL n k).1) n hn).2.1 hM]⟩
  · rintro i m hi ⟨g1, g2, g3⟩ ih
    have st : ∀ y : Int, y = cI (endP L b i) (-10) 0 → X mX10_sum 43 [(0, vR 265), (1, vI (p : Nat)), (2, vI (i : Nat))] [vL y, vI ((p + i : Nat) : Int), vR 293] sh ν m 0 0 Q := by
      rintro _ rfl
      refine g_X10_sum_43 hW (fa_X10_38 hW) ⟨pI i hi, ?_⟩
      rw [wi1 (by omega), Int.toNat_natCast]
      refine ih _ ⟨fun n hn => ?_, fun j hj => ?_, fun c hc => by rw [up_o' hc]; exact g3 c hc⟩
      · by_cases e : n = i
        · rw [e, up_s]
        · rw [up_k' (show p + n ≠ p + i by omega)]; exact g1 n (by omega)
      · rw [up_k' (show j ≠ p + i by omega)]; exact g2 j hj
    refine g_X10_sum_6 hW ⟨fun q => absurd q (by omega), fun _ => ?_⟩
    rw [pn i hi, Int.toNat_natCast, g3 299 (by decide)]
    refine ⟨tI hi, fun q => g_X10_sum_42 hW (fa_X10_38 hW) (st 0 ?_), fun q => ?_⟩
    · rw [cI_f fun z => (r1 i hi).2 (end_made z) q]
    · refine c_X10_isEndless hW (L := L) (b := b) (fun n hn => by rw [g3 297 (by decide)]; exact hK0 n hn) (fun i hi => by rw [g3 300 (by decide)]; exact r2 i hi) hb hi ((r1 i hi).1 q) fun v hv => ?_
      refine g_X10_sum_33 hW (fa_X10_38 hW) ⟨fun z => g_X10_sum_42 hW (fa_X10_38 hW) (st 0 ?_), fun z => st (-10) ?_⟩
      · rw [cI_f fun y => hv.2 y z]
      · rw [cI_t (hv.1 z)]
end SM
