/-! the knot of the class sums the ties -/
theorem wplus_assoc {a b c : Int} (ha : wOK a) (hb : wOK b) (hc : wOK c) : wplus (wplus a b) c = wplus a (wplus b c) := by
  unfold wOK at *
  have e1 : wplus a b = if a < 0 ∨ b < 0 then -10 else min (a + b) (1000000000000000000 : Int) := rfl
  have e2 : wplus b c = if b < 0 ∨ c < 0 then -10 else min (b + c) (1000000000000000000 : Int) := rfl
  rw [e1, e2]
  unfold wplus
  split <;> split <;> split <;> split <;> omega
theorem wplus_comm (a b : Int) : wplus a b = wplus b a := by
  unfold wplus
  rw [Int.add_comm a b]
  split <;> split <;> omega
theorem wplus_right {a b c : Int} (ha : wOK a) (hb : wOK b) (hc : wOK c) : wplus (wplus a b) c = wplus (wplus a c) b := by
  rw [wplus_assoc ha hb hc, wplus_comm b c, ← wplus_assoc ha hc hb]
theorem wmult_succ {c u : Int} (hc : 0 ≤ c) (hu : wOK u) : wmult (c + 1) u = wplus (wmult c u) u := by
  unfold wOK at hu
  by_cases h0 : u = 0
  · rw [h0, wmult_0r, wmult_0r]; rfl
  · rcases hu with q | ⟨q1, q2⟩
    · subst q
      have e1 : wmult (c + 1) (-10) = -10 := by unfold wmult; rw [if_neg (by omega), if_pos (by omega)]
      rw [e1]; unfold wplus; rw [if_pos (Or.inr (by decide))]
    · have e1 : wmult (c + 1) u = min ((c + 1) * u) (1000000000000000000 : Int) := by unfold wmult; rw [if_neg (by omega), if_neg (by omega)]
      have e3 : (c + 1) * u = c * u + u := by rw [Int.add_mul, Int.one_mul]
      have e4 : 0 ≤ c * u := Int.mul_nonneg hc q1
      have e2 : wmult c u = min (c * u) (1000000000000000000 : Int) := by
        unfold wmult
        by_cases z : c = 0
        · rw [if_pos (Or.inl z), z, Int.zero_mul]; decide
        · rw [if_neg (by omega), if_neg (by omega)]
      rw [e1, e2, e3]
      generalize c * u = z at *
      unfold wplus
      rw [if_neg (by omega)]
      omega
theorem wsum_add {a v : Int} {g : Nat → Int} {k0 : Nat} (ha : wOK a) (hv : wOK v) : ∀ N, (∀ k, k < N → wOK (g k)) → k0 < N → wplus (wsum a g N) v = wsum a (fun k => if k = k0 then wplus (g k) v else g k) N := by
  intro N
  induction N with
  | zero => intro _ h; exact absurd h (Nat.not_lt_zero _)
  | succ N ih =>
    intro hg hk
    have h1 := wsum_ok (n := N) ha fun k hk => hg k (by omega)
    have h2 := hg N (by omega)
    show wplus (wplus (wsum a g N) (g N)) v = wplus (wsum a (fun k => if k = k0 then wplus (g k) v else g k) N) (if N = k0 then wplus (g N) v else g N)
    by_cases e : N = k0
    · rw [if_pos e, wplus_assoc h1 h2 hv]
      congr 1
      exact wsum_congr fun k hk => (if_neg (by omega)).symm
    · rw [if_neg e, wplus_right h1 h2 hv, ih (fun k hk => hg k (by omega)) (by omega)]
def fSm (T : TT) (own fm : Nat → Int) : Nat → Nat → Int
  | 0, n => own n
  | i + 1, n => if (T i).1 = n then min (fSm T own fm i n + fm (T i).2.2.1) (1000000000000000000 : Int) else fSm T own fm i n
section FS
variable {T : TT} {own fm : Nat → Int} {n nt : Nat}
theorem fSm_b (hf : ∀ k, k < 8 → 0 ≤ fm k ∧ fm k ≤ (1000000000000000000 : Int)) (ho : 0 ≤ own n ∧ own n ≤ (1000000000000000000 : Int)) (hT8 : ∀ t, t < nt → (T t).2.2.1 < 8) : ∀ i, i ≤ nt → 0 ≤ fSm T own fm i n ∧ fSm T own fm i n ≤ (1000000000000000000 : Int) := by
  intro i
  induction i with
  | zero => exact fun _ => ho
  | succ i ih =>
    intro hi
    have h1 := ih (by omega)
    have h2 := hf _ (hT8 i (by omega))
    have e : fSm T own fm (i + 1) n = if (T i).1 = n then min (fSm T own fm i n + fm (T i).2.2.1) (1000000000000000000 : Int) else fSm T own fm i n := rfl
    rw [e]
    split <;> omega
theorem fSm_wsum (h40 : nt ≤ 40) (hf : ∀ k, k < 8 → 0 ≤ fm k ∧ fm k ≤ (1000000000000000000 : Int)) (ho : 0 ≤ own n ∧ own n ≤ (1000000000000000000 : Int)) (hT8 : ∀ t, t < nt → (T t).2.2.1 < 8) : ∀ i, i ≤ nt → fSm T own fm i n = wsum (own n) (fun k => wmult (cntT T i n k) (fm k)) 8 := by
  have oko : wOK (own n) := Or.inr ho
  have okf : ∀ k, k < 8 → wOK (fm k) := fun k hk => Or.inr (hf k hk)
  intro i
  induction i with
  | zero =>
    intro _
    refine (wsum_0 oko fun k _ => ?_).symm
    show wmult 0 (fm k) = 0
    exact wmult_0l _
  | succ i ih =>
    intro hi
    have h2 := hT8 i (by omega)
    have hbb := fSm_b (n := n) hf ho hT8 i (by omega)
    show (if (T i).1 = n then min (fSm T own fm i n + fm (T i).2.2.1) (1000000000000000000 : Int) else fSm T own fm i n) = _
    by_cases q : (T i).1 = n
    · have e1 : min (fSm T own fm i n + fm (T i).2.2.1) (1000000000000000000 : Int) = wplus (fSm T own fm i n) (fm (T i).2.2.1) := by
        have := hf _ h2
        unfold wplus; rw [if_neg (by omega)]
      rw [if_pos q, e1, ih (by omega), wsum_add oko (okf _ h2) 8 (fun k hk => ?_) h2]
      · refine wsum_congr fun k hk => ?_
        show (if k = (T i).2.2.1 then wplus (wmult (cntT T i n k) (fm k)) (fm (T i).2.2.1) else wmult (cntT T i n k) (fm k)) = wmult (cntT T i n k + if (T i).1 = n ∧ (T i).2.2.1 = k then 1 else 0) (fm k)
        by_cases z : k = (T i).2.2.1
        · rw [if_pos z, if_pos ⟨q, z.symm⟩, ← z, wmult_succ (cntT_b T i n k).1 (okf k hk)]
        · rw [if_neg z, if_neg fun y => z y.2.symm, Int.add_zero]
      · refine wOK_mult ?_ (okf k hk)
        have := cntT_b T i n k
        exact Or.inr ⟨this.1, by omega⟩
    · rw [if_neg q, ih (by omega)]
      refine wsum_congr fun k _ => ?_
      show wmult (cntT T i n k) (fm k) = wmult (cntT T i n k + if (T i).1 = n ∧ (T i).2.2.1 = k then 1 else 0) (fm k)
      rw [if_neg fun y => q y.1, Int.add_zero]
end FS
section KS
variable {sh : List (Nat × Nat)} {ν : Nat → Nat → Option Nat} {μ : Nat → Nat → Int} {f s : Nat} {Q : xQ} {p nt : Nat} {T : TT} {L : Nat → Nat → Int} {b : Nat → Int}
theorem c_X4_sumTies (hW : WF sh ν f s) (hp : isKnot p) (hM : tieM μ p nt T) (h40 : nt ≤ 40) (hT8 : ∀ t, t < nt → (T t).1 < 8 ∧ (T t).2.2.1 < 8) (hL : ∀ n k, k < 8 → cntT T nt n k = L n k) (ho : ∀ n, n < 8 → (0 ≤ μ (p + 1) n ∧ μ (p + 1) n ≤ (1000000000000000000 : Int)) ∧ (¬ endP L b n → μ (p + 1) n = b n)) (h0 : ∀ n, n < 8 → μ (p + 2) n = μ (p + 1) n)
    (k : ∀ μ' : Nat → Nat → Int, (∀ n, n < 8 → ¬ endP L b n → μ' (p + 2) n = wDj L b 8 n) → (∀ c, c ≠ p + 2 → c ≠ p + 3 → μ' c = μ c) → Q none sh ν μ') : X mX4_sumTies 0 [(0, vR p)] [] sh ν μ 0 0 Q := by
  obtain ⟨m1, m2⟩ := hM
  refine g_X4_sumTies_0 hW hp ?_
  have key := loop_up 8 (fun (t : Nat) (m : Nat → Nat → Int) => (∀ n, n < 8 → (0 ≤ m (p + 2) n ∧ m (p + 2) n ≤ (1000000000000000000 : Int)) ∧ (¬ endP L b n → m (p + 2) n = wDj L b t n)) ∧ ∀ c, c ≠ p + 2 → c ≠ p + 3 → m c = μ c) (fun t m => X mX4_sumTies 2 [(0, vR p), (1, vI (t : Nat))] [] sh ν m 0 0 Q) ?_ ?_ 0 μ (Nat.zero_le _) ⟨fun n hn => by rw [h0 n hn]; exact ho n hn, fun _ _ _ => rfl⟩
  · exact key
  · rintro m ⟨h1, h2⟩
    exact g_X4_sumTies_2 hW hp ⟨fun _ => k m (fun n hn => (h1 n hn).2) h2, fun q => absurd q (by omega)⟩
  · rintro t m ht ⟨h1, h2⟩ ih
    refine g_X4_sumTies_2 hW hp ⟨fun q => absurd q (by omega), fun _ => ?_⟩
    have c1 : ∀ j, j < 8 → cpy (cpy m (p + 2) (p + 3) 8) (p + 1) (p + 2) 8 (p + 2) j = μ (p + 1) j := fun j hj => by
      have e1 : cpy (cpy m (p + 2) (p + 3) 8) (p + 1) (p + 2) 8 (p + 2) j = cpy m (p + 2) (p + 3) 8 (p + 1) j := if_pos ⟨rfl, hj⟩
      rw [e1, cpy_o _ (by omega), h2 (p + 1) (by omega) (by omega)]
    have c2 : ∀ j, j < 8 → cpy (cpy m (p + 2) (p + 3) 8) (p + 1) (p + 2) 8 (p + 3) j = m (p + 2) j := fun j hj => by
      rw [cpy_o _ (by omega)]
      exact if_pos ⟨rfl, hj⟩
    have c3 : ∀ c, c ≠ p + 2 → c ≠ p + 3 → cpy (cpy m (p + 2) (p + 3) 8) (p + 1) (p + 2) 8 c = μ c := fun c a1 a2 => by rw [cpy_o _ a1, cpy_o _ a2]; exact h2 c a1 a2
    generalize cpy (cpy m (p + 2) (p + 3) 8) (p + 1) (p + 2) 8 = m0 at c1 c2 c3
    have hf : ∀ k, k < 8 → 0 ≤ m (p + 2) k ∧ m (p + 2) k ≤ (1000000000000000000 : Int) := fun k hk => (h1 k hk).1
    have hT82 : ∀ t, t < nt → (T t).2.2.1 < 8 := fun t h => (hT8 t h).2
    have key2 := loop_up nt (fun (i : Nat) (m' : Nat → Nat → Int) => (∀ n, n < 8 → m' (p + 2) n = fSm T (μ (p + 1)) (m (p + 2)) i n) ∧ ∀ c, c ≠ p + 2 → m' c = m0 c) (fun i m' => X mX4_sumTies 40 [(0, vR p), (1, vI (t : Nat)), (2, vI (i : Nat))] [] sh ν m' 0 0 Q) ?_ ?_ 0 m0 (Nat.zero_le _) ⟨fun n hn => c1 n hn, fun _ _ => rfl⟩
    · exact key2
    · rintro m' ⟨u1, u2⟩
      refine g_X4_sumTies_40 hW hp ?_
      rw [u2 p (by omega), c3 p (by omega) (by omega), m1]
      refine ⟨fun _ => ?_, fun q => absurd q (by omega)⟩
      rw [wi1 (by omega)]
      refine ih m' ⟨fun n hn => ⟨?_, fun hE => ?_⟩, fun c a1 a2 => by rw [u2 c a1]; exact c3 c a1 a2⟩
      · rw [u1 n hn]; exact fSm_b hf (ho n hn).1 hT82 nt (Nat.le_refl _)
      · rw [u1 n hn, fSm_wsum h40 hf (ho n hn).1 hT82 nt (Nat.le_refl _), (ho n hn).2 hE]
        show _ = wsum (b n) (fun k => wmult (L n k) (wDj L b t k)) 8
        refine wsum_congr fun k hk => ?_
        show wmult (cntT T nt n k) (m (p + 2) k) = wmult (L n k) (wDj L b t k)
        rw [hL n k hk]
        by_cases q : L n k = 0
        · rw [q, wmult_0l, wmult_0l]
        · have hl := cntT_b T nt n k
          rw [hL n k hk] at hl
          rw [(h1 k hk).2 fun z => hE (end_back (wlk_1 hk (by omega)) z)]
    · rintro i m' hi ⟨u1, u2⟩ ih2
      obtain ⟨a1, a2, a3, a4⟩ := m2 i hi
      obtain ⟨b1, b2⟩ := hT8 i hi
      have hb := fSm_b (n := (T i).1) hf (ho _ b1).1 hT82 i (by omega)
      refine g_X4_sumTies_40 hW hp ?_
      rw [u2 p (by omega), c3 p (by omega) (by omega), m1, Int.toNat_natCast, u2 (p + 6) (by omega), c3 (p + 6) (by omega) (by omega), u2 (p + 8) (by omega), c3 (p + 8) (by omega) (by omega), a1, a3, Int.toNat_natCast, Int.toNat_natCast, u1 _ b1, u2 (p + 3) (by omega), c2 _ b2, wi1 (i := i) (by omega)]
      refine ⟨fun q => absurd q (by omega), fun _ => ⟨by omega, tI b1, by omega, tI b2, ?_, ?_, tI b1, ?_⟩⟩
      · exact hb
      · exact hf _ b2
      refine ih2 (up m' (p + 2) (T i).1 (min (fSm T (μ (p + 1)) (m (p + 2)) i (T i).1 + m (p + 2) (T i).2.2.1) 1000000000000000000)) (And.intro (fun n hn => ?_) fun c hc => (up_o' hc).trans (u2 c hc))
      show _ = if (T i).1 = n then min (fSm T (μ (p + 1)) (m (p + 2)) i n + m (p + 2) (T i).2.2.1) (1000000000000000000 : Int) else fSm T (μ (p + 1)) (m (p + 2)) i n
      by_cases e : n = (T i).1
      · rw [e, up_s, if_pos rfl]
      · rw [up_k' e, if_neg fun z => e z.symm]; exact u1 n hn
end KS
