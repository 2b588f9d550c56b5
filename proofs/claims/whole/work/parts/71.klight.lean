/-! the knot of the class finds the least weights and their rules -/
/-- B holds the least weights of what the rules bring -/
def bstK (D : KD) (nR : Nat) (B : Nat → Int) : Prop := (∀ n, n < 8 → B n = -9 ∨ (1 ≤ B n ∧ B n ≤ 100000000000000)) ∧ (∀ r, r < nR → kG D r → B (kn D r) ≠ -9 ∧ B (kn D r) ≤ kV D r) ∧ (∀ r k, r < nR → k < 8 → kT D r k → B k ≠ -9 → B (kn D r) ≠ -9 ∧ B (kn D r) ≤ kX D r + B k) ∧ ∀ n, n < 8 → B n ≠ -9 → ∃ r, r < nR ∧ kn D r = n ∧ ((kG D r ∧ B n = kV D r) ∨ ∃ k, k < 8 ∧ kT D r k ∧ B k ≠ -9 ∧ B n = kX D r + B k)
def rnk (B : Nat → Int) (n : Nat) : Int := cardS (fun m => decide (B m ≠ -9 ∧ B m < B n))
section RN
variable {B : Nat → Int} {n k : Nat}
theorem rnk_lt (hk : k < 8) (h1 : B k ≠ -9) (h2 : B k < B n) : rnk B k < rnk B n := by
  have := cardS_lt (S := fun m => decide (B m ≠ -9 ∧ B m < B k)) (T := fun m => decide (B m ≠ -9 ∧ B m < B n)) hk (decide_eq_false fun z => by omega) (decide_eq_true ⟨h1, h2⟩) fun m _ hm => by
    have := of_decide_eq_true hm
    exact decide_eq_true ⟨this.1, by omega⟩
  unfold rnk
  omega
theorem rnk_7 (hn : n < 8) : rnk B n ≤ 7 := by
  have h1 := cardS_lt (S := fun m => decide (B m ≠ -9 ∧ B m < B n)) (T := fun _ => true) hn (decide_eq_false fun z => by omega) rfl fun m _ _ => rfl
  have h2 := cardS_8 (fun _ => true)
  unfold rnk
  omega
theorem rnk_0 : 0 ≤ rnk B n := sumN_nn fun i _ => by
  show 0 ≤ (if _ = true then (1 : Int) else 0)
  split <;> omega
end RN
section KL
variable {sh : List (Nat × Nat)} {ν : Nat → Nat → Option Nat} {μ : Nat → Nat → Int} {f s : Nat} {Q : xQ} {p nt : Nat} {D : KD} {nR : Nat} {T : TT} {B : Nat → Int}
/-- what holds of the weights and rules as they are lightened -/
def lgI (μ : Nat → Nat → Int) (p : Nat) (D : KD) (nR : Nat) (B : Nat → Int) (c : Nat) (m : Nat → Nat → Int) : Prop := (∀ n, n < 8 → (m (p + 4) n = -9 ∨ (B n ≠ -9 ∧ B n ≤ m (p + 4) n ∧ m (p + 4) n ≤ 100000000000000 + (c : Int) * 1000000000)) ∧ ((m (p + 4) n = μ (p + 4) n ∧ m (p + 5) n = μ (p + 5) n) ∨ (m (p + 4) n ≠ -9 ∧ (μ (p + 4) n = -9 ∨ m (p + 4) n < μ (p + 4) n) ∧ m (p + 5) n = 40))) ∧ (∀ r, r < nR → kG D r → m (p + 4) (kn D r) ≠ -9 ∧ m (p + 4) (kn D r) ≤ kV D r) ∧ ∀ c, c ≠ p + 4 → c ≠ p + 5 → m c = μ c
theorem lgI_mono {c c' : Nat} {m : Nat → Nat → Int} (hc : c ≤ c') (h : lgI μ p D nR B c m) : lgI μ p D nR B c' m := ⟨fun n hn => ⟨by
  rcases (h.1 n hn).1 with z | z
  · exact Or.inl z
  · exact Or.inr ⟨z.1, z.2.1, by omega⟩, (h.1 n hn).2⟩, h.2⟩
theorem c_X4_lighten (hW : WF sh ν f s) (hp : isKnot p) (hD : okKD D nR) (hM : tieM μ p nt T) (hT : okTT D nR nt T) (hK : kBest μ p D nR) (hB : bstK D nR B)
    (k : ∀ μ' : Nat → Nat → Int, (∀ n, n < 8 → μ' (p + 4) n = B n) → (∀ n, n < 8 → (μ (p + 4) n = B n ∧ μ' (p + 5) n = μ (p + 5) n) ∨ (B n ≠ -9 ∧ (μ (p + 4) n = -9 ∨ B n < μ (p + 4) n) ∧ μ' (p + 5) n = 40)) → (∀ c, c ≠ p + 4 → c ≠ p + 5 → μ' c = μ c) → Q none sh ν μ') : X mX4_lightenByTies 0 [(0, vR p)] [] sh ν μ 0 0 Q := by
  obtain ⟨m1, m2⟩ := hM
  obtain ⟨t1, t2, t3, t4⟩ := hT
  obtain ⟨b1, b2, b3, b4⟩ := hB
  have h40 := hD.1
  have hT8 : ∀ t, t < nt → (T t).1 < 8 ∧ (T t).2.2.1 < 8 := fun t ht => ⟨by rw [← (t2 t ht).2.2.1]; exact (hD.2 _ (t2 t ht).1).1, (t2 t ht).2.2.2.2⟩
  have hgain : ∀ r, r < nR → kG D r → μ (p + 4) (kn D r) ≠ -9 ∧ μ (p + 4) (kn D r) ≤ kV D r := fun r hr hg => by
    rcases hK (kn D r) (hD.2 r hr).1 with ⟨a1, a2, a3⟩ | ⟨r0, a1, a2, a3, a4, a5, a6⟩
    · exact absurd hg (a3 r hr rfl)
    · have := (hD.2 r0 a1).2.1 a2
      rw [a4]; exact ⟨by omega, (a6 r hr hg rfl).1⟩
  have hI0 : lgI μ p D nR B 0 μ := ⟨fun n hn => ⟨by
    rcases hK n hn with ⟨a1, a2, a3⟩ | ⟨r0, a1, a2, a3, a4, a5, a6⟩
    · exact Or.inl a1
    · have h1 := (hD.2 r0 a1).2.1 a2
      have h2 := b2 r0 a1 a2
      rw [a3] at h2
      rw [a4]; exact Or.inr ⟨h2.1, h2.2, by omega⟩, Or.inl ⟨rfl, rfl⟩⟩, hgain, fun _ _ _ => rfl⟩
  refine g_X4_lightenByTies_0 hW hp ?_
  have key := loop_up 8 (fun (t : Nat) (m : Nat → Nat → Int) => lgI μ p D nR B (40 * t) m ∧ ∀ n, n < 8 → B n ≠ -9 → rnk B n ≤ t → m (p + 4) n = B n) (fun t m => X mX4_lightenByTies 2 [(0, vR p), (1, vI (t : Nat))] [] sh ν m 0 0 Q) ?_ ?_ 0 μ (Nat.zero_le _) ⟨hI0, fun n hn hne hr => ?_⟩
  · exact key
  · rintro m ⟨⟨h1, h2, h3⟩, h4⟩
    refine g_X4_lightenByTies_2 hW hp ⟨fun _ => ?_, fun q => absurd q (by omega)⟩
    have hfin : ∀ n, n < 8 → m (p + 4) n = B n := fun n hn => by
      by_cases q : B n = -9
      · rcases (h1 n hn).1 with z | z
        · rw [z, q]
        · exact absurd q z.1
      · exact h4 n hn q (by have := rnk_7 (B := B) hn; omega)
    refine k m hfin (fun n hn => ?_) h3
    have h5 := (h1 n hn).2
    rw [hfin n hn] at h5
    rcases h5 with z | z
    · exact Or.inl ⟨z.1.symm, z.2⟩
    · exact Or.inr z
  · rintro t m ht ⟨h1, h4⟩ ih
    refine g_X4_lightenByTies_2 hW hp ⟨fun q => absurd q (by omega), fun _ => ?_⟩
    have key2 := loop_up nt (fun (i : Nat) (m' : Nat → Nat → Int) => lgI μ p D nR B (40 * t + i) m' ∧ (∀ n, n < 8 → B n ≠ -9 → rnk B n ≤ t → m' (p + 4) n = B n) ∧ ∀ j, j < i → B (T j).2.2.1 ≠ -9 → rnk B (T j).2.2.1 ≤ t → m' (p + 4) (T j).1 ≠ -9 ∧ m' (p + 4) (T j).1 ≤ (T j).2.2.2 + B (T j).2.2.1) (fun i m' => X mX4_lightenByTies 10 [(0, vR p), (1, vI (t : Nat)), (2, vI (i : Nat))] [] sh ν m' 0 0 Q) ?_ ?_ 0 m (Nat.zero_le _) ⟨h1, h4, fun j hj => absurd hj (Nat.not_lt_zero j)⟩
    · exact key2
    · rintro m' ⟨u1, u2, u3⟩
      refine g_X4_lightenByTies_10 hW hp ?_
      rw [u1.2.2 p (by omega) (by omega), m1]
      refine ⟨fun _ => ?_, fun q => absurd q (by omega)⟩
      rw [wi1 (i := t) (by omega)]
      refine ih m' ⟨lgI_mono (by omega) u1, fun n hn hne hr => ?_⟩
      obtain ⟨r, r1, r2, r3⟩ := b4 n hn hne
      have u4 := (u1.1 n hn).1
      rcases r3 with ⟨g1, g2⟩ | ⟨k, hk, g1, g2, g3⟩
      · have := u1.2.1 r r1 g1
        rw [r2] at this
        omega
      · have hx := (hD.2 r r1).2.2.1
        have hlt := rnk_lt (n := n) hk g2 (by omega)
        obtain ⟨j, j1, j2, j3⟩ := t3 r k r1 hk g1
        have := u3 j j1 (by rw [j3]; exact g2) (by rw [j3]; omega)
        obtain ⟨c1, c2, c3, c4, c5⟩ := t2 j j1
        rw [j2, r2] at c3
        rw [j2] at c4
        rw [← c3, c4, j3] at this
        omega
    · rintro i m' hi ⟨u1, u2, u3⟩ ih2
      obtain ⟨a1, a2, a3, a4⟩ := m2 i hi
      obtain ⟨d1, d2⟩ := hT8 i hi
      obtain ⟨c1, c2, c3, c4, c5⟩ := t2 i hi
      have hx := (hD.2 _ c1).2.2.1
      have f9 : m' p 9 = nt := by rw [u1.2.2 p (by omega) (by omega)]; exact m1
      have f6 : m' (p + 6) i = (T i).1 := by rw [u1.2.2 (p + 6) (by omega) (by omega)]; exact a1
      have f8 : m' (p + 8) i = (T i).2.2.1 := by rw [u1.2.2 (p + 8) (by omega) (by omega)]; exact a3
      have f10 : m' (p + 9) i = (T i).2.2.2 := by rw [u1.2.2 (p + 9) (by omega) (by omega)]; exact a4
      obtain ⟨v1, v2⟩ := u1.1 _ d1
      obtain ⟨w1, -⟩ := u1.1 _ d2
      -- nothing to lighten
      have no : (m' (p + 4) (T i).2.2.1 < 0 ∨ (m' (p + 4) (T i).1 ≠ -9 ∧ m' (p + 4) (T i).1 ≤ m' (p + 4) (T i).2.2.1 + (T i).2.2.2)) → X mX4_lightenByTies 98 [(0, vR p), (1, vI (t : Nat)), (2, vI (i : Nat))] [] sh ν m' 0 0 Q := by
        intro q
        refine g_X4_lightenByTies_98 hW hp ?_
        rw [wi1 (i := i) (by omega)]
        refine ih2 m' ⟨lgI_mono (by omega) u1, u2, fun j hj y1 y2 => ?_⟩
        by_cases e : j = i
        · subst e
          have h5 := u2 _ d2 y1 y2
          have h6 := b1 _ d2
          rw [h5] at q
          omega
        · exact u3 j (by omega) y1 y2
      have yes : 0 ≤ m' (p + 4) (T i).2.2.1 → (m' (p + 4) (T i).1 < 0 ∨ m' (p + 4) (T i).2.2.1 + (T i).2.2.2 < m' (p + 4) (T i).1) → X mX4_lightenByTies 75 [(0, vR p), (1, vI (t : Nat)), (2, vI (i : Nat)), (3, vI ((T i).1 : Nat)), (4, vL (m' (p + 4) (T i).2.2.1))] [] sh ν m' 0 0 Q := by
        intro q1 q2
        have hBk : B (T i).2.2.1 ≠ -9 ∧ B (T i).2.2.1 ≤ m' (p + 4) (T i).2.2.1 ∧ m' (p + 4) (T i).2.2.1 ≤ 100000000000000 + ((40 * t + i : Nat) : Int) * 1000000000 := by
          rcases w1 with z | z
          · omega
          · exact z
        have hbt := b3 _ _ c1 d2 c2 hBk.1
        rw [c3, ← c4] at hbt
        have hBn := b1 _ d1
        refine g_X4_lightenByTies_75 hW hp ?_
        rw [Int.toNat_natCast, Int.toNat_natCast, f10, w64_id (x := m' (p + 4) (T i).2.2.1 + (T i).2.2.2) (by omega) (by omega)]
        refine ⟨by omega, tI d1, tI d1, ?_⟩
        refine g_X4_lightenByTies_98 hW hp ?_
        rw [wi1 (i := i) (by omega)]
        have g4 : ∀ n, up (up m' (p + 4) (T i).1 (m' (p + 4) (T i).2.2.1 + (T i).2.2.2)) (p + 5) (T i).1 40 (p + 4) n = if n = (T i).1 then m' (p + 4) (T i).2.2.1 + (T i).2.2.2 else m' (p + 4) n := fun n => by
          rw [up_a' (by omega)]
          by_cases e : n = (T i).1
          · rw [if_pos e, e, up_s]
          · rw [if_neg e, up_k' e]
        have g5 : ∀ n, up (up m' (p + 4) (T i).1 (m' (p + 4) (T i).2.2.1 + (T i).2.2.2)) (p + 5) (T i).1 40 (p + 5) n = if n = (T i).1 then 40 else m' (p + 5) n := fun n => by
          by_cases e : n = (T i).1
          · rw [if_pos e, e, up_s]
          · rw [if_neg e, up_k' e, up_a' (by omega)]
        have g0 : ∀ c, c ≠ p + 4 → c ≠ p + 5 → up (up m' (p + 4) (T i).1 (m' (p + 4) (T i).2.2.1 + (T i).2.2.2)) (p + 5) (T i).1 40 c = μ c := fun c e1 e2 => by rw [up_o' e2, up_o' e1]; exact u1.2.2 c e1 e2
        generalize up (up m' (p + 4) (T i).1 (m' (p + 4) (T i).2.2.1 + (T i).2.2.2)) (p + 5) (T i).1 40 = m'' at g4 g5 g0
        have hup : m' (p + 4) (T i).2.2.1 + (T i).2.2.2 ≤ 100000000000000 + ((40 * t + (i + 1) : Nat) : Int) * 1000000000 := by omega
        have hle : ∀ n, n < 8 → m' (p + 4) n ≠ -9 → m'' (p + 4) n ≠ -9 ∧ m'' (p + 4) n ≤ m' (p + 4) n := fun n hn z => by
          rw [g4 n]
          by_cases e : n = (T i).1
          · rw [if_pos e]; subst e; omega
          · rw [if_neg e]; exact ⟨z, Int.le_refl _⟩
        refine ih2 m'' ⟨⟨fun n hn => ?_, fun r hr hg => ?_, g0⟩, fun n hn y1 y2 => ?_, fun j hj y1 y2 => ?_⟩
        · rw [g4 n, g5 n]
          by_cases e : n = (T i).1
          · rw [if_pos e, if_pos e]
            subst e
            refine ⟨Or.inr ⟨hbt.1, by omega, hup⟩, Or.inr ⟨by omega, ?_, rfl⟩⟩
            rcases v2 with z | z
            · rw [← z.1]; omega
            · omega
          · rw [if_neg e, if_neg e]; exact (lgI_mono (c' := 40 * t + (i + 1)) (by omega) u1).1 n hn
        · have h5 := u1.2.1 r hr hg
          have h6 := hle _ (hD.2 r hr).1 h5.1
          exact ⟨h6.1, by omega⟩
        · have h5 := u2 n hn y1 y2
          have h6 := hle n hn (by omega)
          rw [g4 n] at h6 ⊢
          by_cases e : n = (T i).1
          · rw [if_pos e] at h6 ⊢
            subst e; omega
          · rw [if_neg e]; exact h5
        · by_cases e : j = i
          · subst e
            have h5 := u2 _ d2 y1 y2
            rw [g4, if_pos rfl]
            exact ⟨by omega, by omega⟩
          · have h5 := u3 j (by omega) y1 y2
            have h6 := hle _ (hT8 j (by omega)).1 h5.1
            exact ⟨h6.1, by omega⟩
      refine g_X4_lightenByTies_10 hW hp ?_
      rw [f9, Int.toNat_natCast, f6, f8, f10, Int.toNat_natCast, Int.toNat_natCast]
      refine ⟨fun q => absurd q (by omega), fun _ => ⟨by omega, by omega, tI d2, fun q => no (Or.inl q), fun q => ⟨tI d1, fun q2 => yes q (Or.inl q2), fun q2 => ⟨by omega, tI d1, fun q3 => ?_, fun q3 => ?_⟩⟩⟩⟩
      · rw [w64_id (by omega) (by omega)] at q3
        exact no (Or.inr ⟨by omega, q3⟩)
      · rw [w64_id (by omega) (by omega)] at q3
        exact yes q (Or.inr q3)
  · obtain ⟨r, r1, r2, r3⟩ := b4 n hn hne
    have h0 := (hI0.1 n hn).1
    rcases r3 with ⟨g1, g2⟩ | ⟨k, hk, g1, g2, g3⟩
    · have := hgain r r1 g1
      rw [r2] at this
      omega
    · have hx := (hD.2 r r1).2.2.1
      have hlt := rnk_lt (n := n) hk g2 (by omega)
      have := rnk_0 (B := B) (n := k)
      omega
end KL
