/-! ways are there where a best is; how great a weight can be -/
theorem wplus_ne {a b : Int} (ha : wOK a) (hb : wOK b) : wplus a b ≠ 0 ↔ a ≠ 0 ∨ b ≠ 0 := by
  unfold wplus wOK at *
  split <;> omega
theorem wmult_ne {a b : Int} : wmult a b ≠ 0 ↔ a ≠ 0 ∧ b ≠ 0 := by
  unfold wmult
  split
  · omega
  · split
    · omega
    · have : 0 < a * b := Int.mul_pos (by omega) (by omega)
      omega
theorem wmult_pos {a b : Int} (ha : 0 < a) (hb : 0 < b) : 0 < wmult a b := by
  unfold wmult
  have : 0 < a * b := Int.mul_pos ha hb
  rw [if_neg (by omega), if_neg (by omega)]
  omega
theorem wsum_pos {a : Int} {g : Nat → Int} {n : Nat} (ha : 0 ≤ a) (hg : ∀ k, k < n → 0 ≤ g k) (h : 0 < a ∨ ∃ k, k < n ∧ 0 < g k) : 0 < wsum a g n := by
  induction n with
  | zero => rcases h with h | ⟨k, hk, -⟩
            · exact h
            · exact absurd hk (Nat.not_lt_zero k)
  | succ n ih =>
    have h1 := wsum_nn (n := n) ha fun k hk => hg k (by omega)
    have h2 := hg n (by omega)
    have key : 0 < wsum a g n ∨ 0 < g n := by
      rcases h with h | ⟨k, hk, h3⟩
      · exact Or.inl (ih (fun k hk => hg k (by omega)) (Or.inl h))
      · by_cases q : k = n
        · rw [q] at h3; exact Or.inr h3
        · exact Or.inl (ih (fun k hk => hg k (by omega)) (Or.inr ⟨k, by omega, h3⟩))
    show 0 < wplus (wsum a g n) (g n)
    unfold wplus
    rw [if_neg (by omega)]
    omega
section NZ
variable {L : Nat → Nat → Int} {b : Nat → Int} {n m : Nat}
theorem wDj_nn (hb : ∀ n, n < 8 → wOK (b n)) (hL : ∀ n k, 0 ≤ L n k) (t : Nat) : ∀ n, n < 8 → ¬ endP L b n → 0 ≤ wDj L b t n := by
  have h0 : ∀ n, n < 8 → ¬ endP L b n → 0 ≤ b n := fun n hn hE => by
    rcases hb n hn with q | q
    · exact absurd ⟨0, n, rfl, Or.inl q⟩ hE
    · exact q.1
  induction t with
  | zero => exact h0
  | succ t ih =>
    intro n hn hE
    refine wsum_nn (h0 n hn hE) fun k hk => ?_
    show 0 ≤ wmult (L n k) (wDj L b t k)
    by_cases q : L n k = 0
    · rw [q, wmult_0l]; exact Int.le_refl 0
    · exact wmult_nn (hL n k) (ih k hk fun z => hE (end_back (wlk_1 hk (by have := hL n k; omega)) z))
theorem wS_nn (hb : ∀ n, n < 8 → wOK (b n)) (hL : ∀ n k, 0 ≤ L n k) (hn : n < 8) (hE : ¬ endP L b n) : 0 ≤ wS L b n := by
  unfold wS; rw [cI_f hE]; exact wDj_nn hb hL 8 n hn hE
theorem wS_ne0 (hb : ∀ n, n < 8 → wOK (b n)) (hL : ∀ n k, 0 ≤ L n k) (hn : n < 8) : wS L b n ≠ 0 ↔ madeP L b n := by
  constructor
  · intro h
    exact Classical.byContradiction fun q => h ((wS_eq hb hL n hn).2.1 q)
  · intro h
    by_cases hE : endP L b n
    · rw [(wS_eq hb hL n hn).1 hE]; decide
    · obtain ⟨t, m, hw, hm⟩ := h
      have key : ∀ t n, n < 8 → ¬ endP L b n → wlk L t n m → 0 < wS L b n := by
        intro t
        induction t with
        | zero =>
          intro n hn hE hw
          have e : n = m := hw
          subst e
          have hb0 : 0 < b n := by
            rcases hb n hn with q | q
            · exact absurd ⟨0, n, rfl, Or.inl q⟩ hE
            · omega
          rw [(wS_eq hb hL n hn).2.2 hE]
          refine wsum_pos (by omega) (fun k hk => ?_) (Or.inl hb0)
          show 0 ≤ wmult (L n k) (wS L b k)
          by_cases q : L n k = 0
          · rw [q, wmult_0l]; exact Int.le_refl 0
          · exact wmult_nn (hL n k) (wS_nn hb hL hk fun z => hE (end_back (wlk_1 hk (by have := hL n k; omega)) z))
        | succ t ih =>
          rintro n hn hE ⟨k, hk, hl, hw⟩
          have hb0 : 0 ≤ b n := by
            rcases hb n hn with q | q
            · exact absurd ⟨0, n, rfl, Or.inl q⟩ hE
            · omega
          rw [(wS_eq hb hL n hn).2.2 hE]
          refine wsum_pos hb0 (fun k hk => ?_) (Or.inr ⟨k, hk, ?_⟩)
          · show 0 ≤ wmult (L n k) (wS L b k)
            by_cases q : L n k = 0
            · rw [q, wmult_0l]; exact Int.le_refl 0
            · exact wmult_nn (hL n k) (wS_nn hb hL hk fun z => hE (end_back (wlk_1 hk (by have := hL n k; omega)) z))
          · exact wmult_pos hl (ih k hk (fun z => hE (end_back (wlk_1 hk hl) z)) hw)
      have := key t n hn hE hw
      omega
end NZ
section MB
variable {e : EV} {R : GR} {nR : Nat} {x y w h n : Nat}
theorem leadF_pos (r n k : Nat) : 0 < leadF R w h r n k ↔ ∃ r', r' < r ∧ rn (R r') = n ∧ tieP (R r') w h k := by
  induction r with
  | zero => exact ⟨fun q => absurd q (by show ¬ (0 : Int) < 0; decide), fun ⟨r', h1, _⟩ => absurd h1 (Nat.not_lt_zero r')⟩
  | succ r ih =>
    have h0 := (leadF_b (R := R) (w := w) (h := h) r n k).1
    have e : leadF R w h (r + 1) n k = leadF R w h r n k + cI (rn (R r) = n ∧ tieP (R r) w h k) 1 0 := rfl
    rw [e]
    by_cases q : rn (R r) = n ∧ tieP (R r) w h k
    · rw [cI_t q]; exact ⟨fun _ => ⟨r, Nat.lt_succ_self r, q⟩, fun _ => by omega⟩
    · rw [cI_f q]
      constructor
      · intro z
        obtain ⟨r', h1, h2⟩ := ih.1 (by omega)
        exact ⟨r', by omega, h2⟩
      · rintro ⟨r', h1, h2⟩
        by_cases z : r' = r
        · rw [z] at h2; exact absurd h2 q
        · have := ih.2 ⟨r', by omega, h2⟩; omega
theorem prodW_ne {V : WV} {d : RD} : ∀ i, prodW V d x y w h i ≠ 0 ↔ ∀ j, j < i → pcV V d x y w h j ≠ 0 := by
  intro i
  induction i with
  | zero => exact ⟨fun _ j hj => absurd hj (Nat.not_lt_zero j), fun _ => by show (1 : Int) ≠ 0; decide⟩
  | succ i ih =>
    show wmult (prodW V d x y w h i) (pcV V d x y w h i) ≠ 0 ↔ _
    rw [wmult_ne, ih]
    constructor
    · rintro ⟨h1, h2⟩ j hj
      by_cases q : j = i
      · rw [q]; exact h2
      · exact h1 j (by omega)
    · exact fun z => ⟨fun j hj => z j (by omega), z i (by omega)⟩
theorem ctrW_ne (hG : okG nR R) (hc : okCell e x y w h) {r : Nat} (hr : r < nR) (hV : holdsF (R r) w h → pcN (R r) w h ≠ 1 → ∀ i, i < pcN (R r) w h → (pcV (VW e R nR) (R r) x y w h i ≠ 0 ↔ pcV (VB e R nR) (R r) x y w h i ≠ -9)) : ctrW e (VW e R nR) (R r) x y w h ≠ 0 ↔ bAp e (VB e R nR) R x y w h r := by
  unfold ctrW bAp
  by_cases g : holdsF (R r) w h
  · rw [cI_t g]
    by_cases hk : rk (R r) = 0
    · rw [cI_t hk]
      have hN : pcN (R r) w h = 0 := if_pos hk
      by_cases q : okL e x y w h (rl (R r))
      · rw [cI_t q]
        exact ⟨fun _ => ⟨g, fun _ => q, fun z => absurd hk z, fun i hi => absurd hi (by omega)⟩, fun _ => by decide⟩
      · rw [cI_f q]
        exact ⟨fun z => absurd rfl z, fun z => absurd (z.2.1 hk) q⟩
    · rw [cI_f hk]
      by_cases hN : pcN (R r) w h = 1
      · rw [cI_t hN]
        exact ⟨fun z => absurd rfl z, fun z => absurd hN (z.2.2.1 hk)⟩
      · rw [cI_f hN, prodW_ne]
        constructor
        · exact fun z => ⟨g, fun q => absurd q hk, fun _ => hN, fun i hi => (hV g hN i hi).1 (z i hi)⟩
        · exact fun z i hi => (hV g hN i hi).2 (z.2.2.2 i hi)
  · rw [cI_f g]
    exact ⟨fun z => absurd rfl z, fun z => absurd z.1 g⟩
theorem baseF_ne (hG : okG nR R) (hc : okCell e x y w h) (n : Nat) : ∀ r, r ≤ nR → (baseF e (VW e R nR) R x y w h r n ≠ 0 ↔ ∃ r', r' < r ∧ rn (R r') = n ∧ ctrW e (VW e R nR) (R r') x y w h ≠ 0) := by
  intro r
  induction r with
  | zero => exact fun _ => ⟨fun q => absurd rfl q, fun ⟨r', h1, _⟩ => absurd h1 (Nat.not_lt_zero r')⟩
  | succ r ih =>
    intro hr
    have ok1 : wOK (baseF e (VW e R nR) R x y w h r n) := baseF_ok (nR := nR) (fun _ hr g _ _ hi => pcV_ok hG hc hr g hi) r (by omega) n
    have ok2 : wOK (ctrW e (VW e R nR) (R r) x y w h) := ctrW_ok fun g _ _ hi => pcV_ok hG hc (by omega) g hi
    have e1 : baseF e (VW e R nR) R x y w h (r + 1) n = wplus (baseF e (VW e R nR) R x y w h r n) (cI (rn (R r) = n) (ctrW e (VW e R nR) (R r) x y w h) 0) := rfl
    rw [e1]
    by_cases q : rn (R r) = n
    · rw [cI_t q, wplus_ne ok1 ok2, ih (by omega)]
      constructor
      · rintro (⟨r', h1, h2⟩ | h1)
        · exact ⟨r', by omega, h2⟩
        · exact ⟨r, by omega, q, h1⟩
      · rintro ⟨r', h1, h2⟩
        by_cases z : r' = r
        · rw [z] at h2; exact Or.inr h2.2
        · exact Or.inl ⟨r', by omega, h2⟩
    · rw [cI_f q, wplus_0 ok1, ih (by omega)]
      constructor
      · rintro ⟨r', h1, h2⟩
        exact ⟨r', by omega, h2⟩
      · rintro ⟨r', h1, h2⟩
        by_cases z : r' = r
        · rw [z] at h2; exact absurd h2.1 q
        · exact ⟨r', by omega, h2⟩
theorem nmR_eq (hG : okG nR R) {r : Nat} (hr : r < nR) : nmR R r = n ↔ rn (R r) = n := by
  have := (hG.2 r hr).1
  unfold nmR
  omega
theorem VW_made (hG : okG nR R) : ∀ t x y w h, okCell e x y w h → w + h ≤ t → ∀ n, n < 8 → (VW e R nR x y w h n ≠ 0 ↔ VB e R nR x y w h n ≠ -9) := by
  intro t
  induction t with
  | zero => intro x y w h hc ht; obtain ⟨h1, h2, -, -, -⟩ := hc; omega
  | succ t ih =>
    intro x y w h hc ht n hn
    have hctr : ∀ r, r < nR → (ctrW e (VW e R nR) (R r) x y w h ≠ 0 ↔ bAp e (VB e R nR) R x y w h r) := fun r hr => ctrW_ne hG hc hr fun g hN i hi => by
      obtain ⟨hk, p1, p2, p3, p4, p5⟩ := pc_cell (hG.2 r hr) hc g hi
      have hl := pc_less (hG.2 r hr) hc g hN hi
      exact ih _ _ _ _ p5 (by omega) _ (pcNm_8 (hG.2 r hr) hk hi)
    have hL := leadF_ok (w := w) (h := h) hG
    rw [VW_eq hG hc, wS_ne0 (fun n _ => baseV_ok hG hc n) (fun n k => (hL n k).1) hn]
    have hE := VB_eq hG hc
    have hbase : ∀ n, baseF e (VW e R nR) R x y w h nR n ≠ 0 ↔ ∃ r', r' < nR ∧ nmR R r' = n ∧ bAp e (VB e R nR) R x y w h r' := fun n => by
      rw [baseF_ne hG hc n nR (Nat.le_refl _)]
      constructor
      · rintro ⟨r, hr, h1, h2⟩; exact ⟨r, hr, (nmR_eq hG hr).2 h1, (hctr r hr).1 h2⟩
      · rintro ⟨r, hr, h1, h2⟩; exact ⟨r, hr, (nmR_eq hG hr).1 h1, (hctr r hr).2 h2⟩
    constructor
    · rintro ⟨s, m, hw, hm⟩
      have key : ∀ s n, n < 8 → wlk (leadF R w h nR) s n m → VB e R nR x y w h n ≠ -9 := by
        intro s
        induction s with
        | zero =>
          intro n hn hw q
          have e1 : n = m := hw
          subst e1
          obtain ⟨r, hr, h1, h2⟩ := (hbase n).1 hm
          rcases hE n hn with ⟨-, z⟩ | ⟨z, -, -⟩
          · exact z r hr h1 _ (Or.inl ⟨h2, rfl⟩)
          · omega
        | succ s ih2 =>
          rintro n hn ⟨k, hk, hl, hw⟩ q
          obtain ⟨r, hr, h1, h2⟩ := (leadF_pos nR n k).1 hl
          rcases hE n hn with ⟨-, z⟩ | ⟨z, -, -⟩
          · exact z r hr ((nmR_eq hG hr).2 h1) _ (Or.inr ⟨k, hk, h2, ih2 k hk hw, rfl⟩)
          · omega
      exact key s n hn hw
    · have key : ∀ N : Nat, ∀ n, n < 8 → VB e R nR x y w h n ≠ -9 → VB e R nR x y w h n < (N : Int) → madeP (leadF R w h nR) (baseF e (VW e R nR) R x y w h nR) n := by
        intro N
        induction N with
        | zero =>
          intro n hn hq hl
          rcases VB_v hG hc hn with z | z
          · exact absurd z hq
          · omega
        | succ N ih2 =>
          intro n hn hq hl
          rcases hE n hn with ⟨z, -⟩ | ⟨z, ⟨r, hr, hm, hv⟩, -⟩
          · exact absurd z hq
          · rcases hv with ⟨h1, -⟩ | ⟨k, hk, h1, h2, h3⟩
            · exact ⟨0, n, rfl, (hbase n).2 ⟨r, hr, hm, h1⟩⟩
            · have := tWp_1 R r
              exact made_back (wlk_1 hk ((leadF_pos nR n k).2 ⟨r, hr, (nmR_eq hG hr).1 hm, h1⟩)) (ih2 k hk h2 (by omega))
      intro q
      exact key (Int.toNat (VB e R nR x y w h n) + 1) n hn q (by omega)
theorem VW_madeC (hG : okG nR R) (hc : okCell e x y w h) (hn : n < 8) : VW e R nR x y w h n ≠ 0 ↔ VB e R nR x y w h n ≠ -9 := VW_made hG _ x y w h hc (Nat.le_refl _) n hn
/-- a weight's cost and number of rules -/
def okDv (A v : Int) : Prop := 0 ≤ v / 1048576 ∧ v / 1048576 ≤ 99 * (v % 1048576) ∧ 1 ≤ v % 1048576 ∧ v % 1048576 ≤ 16 * A - 8
theorem cardS_lt {S T : Nat → Bool} {n : Nat} (hn : n < 8) (hS : S n = false) (hT : T n = true) (h : ∀ m, m < 8 → S m = true → T m = true) : cardS S + 1 ≤ cardS T := by
  have h1 := cardS_ins (S := S) hn hS
  have h2 : cardS (fun m => m == n || S m) ≤ cardS T := by
    unfold cardS
    refine sumN_mono fun m hm => ?_
    show (if (m == n || S m) = true then (1 : Int) else 0) ≤ (if T m = true then (1 : Int) else 0)
    by_cases q : T m = true
    · rw [if_pos q]; split <;> omega
    · have h3 : ¬ (m == n || S m) = true := by
        intro z
        rw [Bool.or_eq_true] at z
        rcases z with z | z
        · have : m = n := by simpa using z
          rw [this] at q; exact q hT
        · exact q (h m hm z)
      rw [if_neg h3, if_neg q]; exact Int.le_refl 0
  omega
theorem cardS_pos {T : Nat → Bool} {n : Nat} (hn : n < 8) (hT : T n = true) : 1 ≤ cardS T := by
  have h0 : cardS (fun _ => false) = 0 := sumN_0 fun i _ => by simp
  have := cardS_lt (S := fun _ => false) hn rfl hT fun m _ q => absurd q (by decide)
  omega
theorem area_pos {w h : Nat} (h1 : 1 ≤ w) (h2 : 1 ≤ h) : 1 ≤ (w : Int) * h := by
  have h3 : (1 : Int) * 1 ≤ (w : Int) * h := Int.mul_le_mul (by omega) (by omega) (by omega) (by omega)
  omega
theorem area_le {w h : Nat} (h1 : w ≤ 20) (h2 : h ≤ 20) : (w : Int) * h ≤ 400 := by
  have h3 : (w : Int) * h ≤ 20 * 20 := Int.mul_le_mul (by omega) (by omega) (by omega) (by omega)
  omega
theorem VB_dec (hG : okG nR R) : ∀ t x y w h, okCell e x y w h → w + h ≤ t → ∀ n, n < 8 → VB e R nR x y w h n ≠ -9 → okDv ((w : Int) * h) (VB e R nR x y w h n) := by
  intro t
  induction t with
  | zero => intro x y w h hc ht; obtain ⟨h1, h2, -, -, -⟩ := hc; omega
  | succ t ih =>
    intro x y w h hc ht n hn hne
    have hE := VB_eq hG hc
    obtain ⟨c1, c2, c3, c4, c5⟩ := id hc
    have hA1 := area_pos c1 c2
    have hA2 := area_le (show w ≤ 20 by omega) (show h ≤ 20 by omega)
    let S : Nat → Nat → Bool := fun n m => decide (VB e R nR x y w h m ≠ -9 ∧ VB e R nR x y w h m ≤ VB e R nR x y w h n)
    have hS : ∀ n m, S n m = true ↔ VB e R nR x y w h m ≠ -9 ∧ VB e R nR x y w h m ≤ VB e R nR x y w h n := fun n m => decide_eq_true_iff
    have key : ∀ N : Nat, ∀ n, n < 8 → VB e R nR x y w h n ≠ -9 → VB e R nR x y w h n < (N : Int) → 0 ≤ VB e R nR x y w h n / 1048576 ∧ VB e R nR x y w h n / 1048576 ≤ 99 * (VB e R nR x y w h n % 1048576) ∧ 1 ≤ VB e R nR x y w h n % 1048576 ∧ VB e R nR x y w h n % 1048576 ≤ 16 * ((w : Int) * h) - 16 + cardS (S n) := by
      intro N
      induction N with
      | zero =>
        intro n hn hq hl
        rcases VB_v hG hc hn with z | z
        · exact absurd z hq
        · omega
      | succ N ih2 =>
        intro n hn hq hl
        rcases hE n hn with ⟨z, -⟩ | ⟨z, ⟨r, hr, hm, hv⟩, -⟩
        · exact absurd z hq
        · have hrc := (hG.2 r hr).2.2.1
          rcases hv with ⟨h1, h2⟩ | ⟨k, hk, h1, h2, h3⟩
          · have hcp := cardS_pos hn ((hS n n).2 ⟨hq, Int.le_refl _⟩)
            by_cases hk : rk (R r) = 0
            · have hN : pcN (R r) w h = 0 := if_pos hk
              have h2' : VB e R nR x y w h n = rc (R r) * 1048576 + 1 + 0 := by rw [h2]; unfold bWp; rw [hN]; rfl
              omega
            · have hN := h1.2.2.1 hk
              have hpd : ∀ i, i < pcN (R r) w h → okDv (pcW (R r) w h i * pcH (R r) w h i) (pcV (VB e R nR) (R r) x y w h i) := fun i hi => by
                obtain ⟨hk, p1, p2, p3, p4, p5⟩ := pc_cell (hG.2 r hr) hc h1.1 hi
                have hl := pc_less (hG.2 r hr) hc h1.1 hN hi
                have := ih _ _ _ _ p5 (by omega) _ (pcNm_8 (hG.2 r hr) hk hi) (h1.2.2.2 i hi)
                rw [Int.toNat_of_nonneg (by omega), Int.toNat_of_nonneg (by omega)] at this
                exact this
              have hfb := few_base (hG.2 r hr) hc h1.1 hk hN (g := fun i => pcV (VB e R nR) (R r) x y w h i % 1048576) fun i hi => (hpd i hi).2.2.2
              have hf1 : 0 ≤ sumN (pcN (R r) w h) (fun i => pcV (VB e R nR) (R r) x y w h i % 1048576) := sumN_nn fun i hi => by have := (hpd i hi).2.2.1; omega
              have hc1 : 0 ≤ sumN (pcN (R r) w h) (fun i => pcV (VB e R nR) (R r) x y w h i / 1048576) := sumN_nn fun i hi => (hpd i hi).1
              have hc2 : sumN (pcN (R r) w h) (fun i => pcV (VB e R nR) (R r) x y w h i / 1048576) ≤ 99 * sumN (pcN (R r) w h) (fun i => pcV (VB e R nR) (R r) x y w h i % 1048576) := by
                rw [← sumN_mulc]
                exact sumN_mono fun i hi => (hpd i hi).2.1
              have hsum : sumN (pcN (R r) w h) (pcV (VB e R nR) (R r) x y w h) = 1048576 * sumN (pcN (R r) w h) (fun i => pcV (VB e R nR) (R r) x y w h i / 1048576) + sumN (pcN (R r) w h) (fun i => pcV (VB e R nR) (R r) x y w h i % 1048576) := by
                rw [← sumN_mulc, ← sumN_add]
                exact sumN_congr fun i hi => (Int.mul_ediv_add_emod _ _).symm
              unfold bWp at h2
              rw [hsum] at h2
              generalize sumN (pcN (R r) w h) (fun i => pcV (VB e R nR) (R r) x y w h i / 1048576) = C at *
              generalize sumN (pcN (R r) w h) (fun i => pcV (VB e R nR) (R r) x y w h i % 1048576) = F at *
              generalize VB e R nR x y w h n = v at *
              clear hsum
              have hd : v / 1048576 = rc (R r) + C ∧ v % 1048576 = 1 + F := by clear hpd hl hc2 z; omega
              omega
          · have h4 : tWp R r = rc (R r) * 1048576 + 1 := by unfold tWp; omega
            rw [h4] at h3
            obtain ⟨i1, i2, i3, i4⟩ := ih2 k hk h2 (by omega)
            have hcl : cardS (S k) + 1 ≤ cardS (S n) := cardS_lt hn (by
              cases e1 : S k n with
              | false => rfl
              | true => have := (hS k n).1 e1; omega) ((hS n n).2 ⟨hq, Int.le_refl _⟩) fun m _ hm => by
                have := (hS k m).1 hm
                exact (hS n m).2 ⟨this.1, by omega⟩
            have h8 := cardS_8 (S n)
            generalize cardS (S n) = a at *
            generalize cardS (S k) = a' at *
            have hd : VB e R nR x y w h n / 1048576 = rc (R r) + VB e R nR x y w h k / 1048576 ∧ VB e R nR x y w h n % 1048576 = 1 + VB e R nR x y w h k % 1048576 := by
              generalize VB e R nR x y w h n = v at *
              generalize VB e R nR x y w h k = v' at *
              clear hl i2 z
              omega
            omega
    have h8 := cardS_8 (S n)
    have := key (Int.toNat (VB e R nR x y w h n) + 1) n hn hne (by omega)
    unfold okDv
    omega
theorem VB_decC (hG : okG nR R) (hc : okCell e x y w h) (hn : n < 8) (hq : VB e R nR x y w h n ≠ -9) : okDv ((w : Int) * h) (VB e R nR x y w h n) := VB_dec hG _ x y w h hc (Nat.le_refl _) n hn hq
end MB
