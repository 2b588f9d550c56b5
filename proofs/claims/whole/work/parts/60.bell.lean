/-! the reference's passes on a cell come to the best -/
/-- the table holds the best of a name on a cell -/
def enB (m : Nat → Nat → Int) (e : EV) (R : GR) (nR : Nat) (x y w h n : Nat) : Prop := m 296 (plN e x y w h n) = VP e R nR x y w h n ∧ (VB e R nR x y w h n ≠ -9 → m 294 (plN e x y w h n) = VB e R nR x y w h n / 1048576 ∧ m 295 (plN e x y w h n) = VB e R nR x y w h n % 1048576)
def enV (m : Nat → Nat → Int) (e : EV) (R : GR) (nR : Nat) (x y w h n : Nat) : Prop := m 293 (plN e x y w h n) = VW e R nR x y w h n
/-- it does so for all pieces of the rules there -/
def tbP (m : Nat → Nat → Int) (e : EV) (R : GR) (nR : Nat) (x y w h : Nat) : Prop := ∀ r, r < nR → holdsF (R r) w h → (rk (R r) ≠ 0 → pcN (R r) w h ≠ 1) → ∀ i, i < pcN (R r) w h → enB m e R nR (Int.toNat (pcX (R r) x w h i)) (Int.toNat (pcY (R r) y w h i)) (Int.toNat (pcW (R r) w h i)) (Int.toNat (pcH (R r) w h i)) (Int.toNat (pcNm (R r) i))
def Bm (m : Nat → Nat → Int) (p : Nat) : Nat → Int := fun n => if m 296 (p + n) = -9 then -9 else wt (m 294 (p + n)) (m 295 (p + n))
section BL
variable {e : EV} {R : GR} {nR : Nat} {x y w h n r : Nat} {m : Nat → Nat → Int}
theorem VP_none (hG : okG nR R) (hc : okCell e x y w h) (hn : n < 8) : VP e R nR x y w h n = -9 ↔ VB e R nR x y w h n = -9 := by
  rcases VP_spec hG hc hn with ⟨h1, h2⟩ | ⟨h1, r, h2, -⟩
  · exact ⟨fun _ => h1, fun _ => h2⟩
  · exact ⟨fun q => by omega, fun q => absurd q h1⟩
theorem tr_base (hG : okG nR R) (hr : r < nR) (hc : okCell e x y w h) (hN : rk (R r) ≠ 0 → pcN (R r) w h ≠ 1) (hT : tbP m e R nR x y w h) : (tryP m e (R r) x y w h ↔ bAp e (VB e R nR) R x y w h r) ∧ (tryP m e (R r) x y w h → wt (tryC m e (R r) x y w h (pcN (R r) w h)) (tryF m e (R r) x y w h (pcN (R r) w h)) = bWp (VB e R nR) R x y w h r ∧ 0 ≤ tryC m e (R r) x y w h (pcN (R r) w h) ∧ tryC m e (R r) x y w h (pcN (R r) w h) ≤ 99 * tryF m e (R r) x y w h (pcN (R r) w h) ∧ 1 ≤ tryF m e (R r) x y w h (pcN (R r) w h) ∧ tryF m e (R r) x y w h (pcN (R r) w h) ≤ 16 * ((w : Int) * h) - 15) := by
  have hi1 : holdsF (R r) w h → ∀ i, i < pcN (R r) w h → (m 296 (pcI e (R r) x y w h i) ≠ -9 ↔ pcV (VB e R nR) (R r) x y w h i ≠ -9) := fun g i hi => by
    obtain ⟨hk, p1, p2, p3, p4, p5⟩ := pc_cell (hG.2 r hr) hc g hi
    have h1 := (hT r hr g hN i hi).1
    have h2 := VP_none hG p5 (pcNm_8 (hG.2 r hr) hk hi)
    have h3 : m 296 (pcI e (R r) x y w h i) = VP e R nR (Int.toNat (pcX (R r) x w h i)) (Int.toNat (pcY (R r) y w h i)) (Int.toNat (pcW (R r) w h i)) (Int.toNat (pcH (R r) w h i)) (Int.toNat (pcNm (R r) i)) := h1
    rw [h3]
    exact not_congr h2
  have hiff : tryP m e (R r) x y w h ↔ bAp e (VB e R nR) R x y w h r := by
    unfold tryP bAp
    constructor
    · rintro ⟨h1, h2, h3⟩
      exact ⟨h1, h2, hN, fun i hi => (hi1 h1 i hi).1 (h3 i hi)⟩
    · rintro ⟨h1, h2, -, h3⟩
      exact ⟨h1, h2, fun i hi => (hi1 h1 i hi).2 (h3 i hi)⟩
  refine ⟨hiff, fun hp => ?_⟩
  have hA := hiff.1 hp
  have hrc := (hG.2 r hr).2.2.1
  obtain ⟨c1, c2, c3, c4, c5⟩ := id hc
  have hA1 := area_pos c1 c2
  have e1 : tryC m e (R r) x y w h (pcN (R r) w h) = rc (R r) + sumN (pcN (R r) w h) (fun i => pcV (VB e R nR) (R r) x y w h i / 1048576) := by
    unfold tryC
    rw [sumN_congr (g := fun i => pcV (VB e R nR) (R r) x y w h i / 1048576) fun i hi => show m 294 (pcI e (R r) x y w h i) = _ from ((hT r hr hA.1 hN i hi).2 (hA.2.2.2 i hi)).1]
  have e2 : tryF m e (R r) x y w h (pcN (R r) w h) = 1 + sumN (pcN (R r) w h) (fun i => pcV (VB e R nR) (R r) x y w h i % 1048576) := by
    unfold tryF
    rw [sumN_congr (g := fun i => pcV (VB e R nR) (R r) x y w h i % 1048576) fun i hi => show m 295 (pcI e (R r) x y w h i) = _ from ((hT r hr hA.1 hN i hi).2 (hA.2.2.2 i hi)).2]
  have hpd : ∀ i, i < pcN (R r) w h → okDv (pcW (R r) w h i * pcH (R r) w h i) (pcV (VB e R nR) (R r) x y w h i) := fun i hi => by
    obtain ⟨hk, p1, p2, p3, p4, p5⟩ := pc_cell (hG.2 r hr) hc hA.1 hi
    have := VB_decC hG p5 (pcNm_8 (hG.2 r hr) hk hi) (hA.2.2.2 i hi)
    rw [Int.toNat_of_nonneg (by omega), Int.toNat_of_nonneg (by omega)] at this
    exact this
  have hf1 : 0 ≤ sumN (pcN (R r) w h) (fun i => pcV (VB e R nR) (R r) x y w h i % 1048576) := sumN_nn fun i hi => by have := (hpd i hi).2.2.1; omega
  have hc1 : 0 ≤ sumN (pcN (R r) w h) (fun i => pcV (VB e R nR) (R r) x y w h i / 1048576) := sumN_nn fun i hi => (hpd i hi).1
  have hc2 : sumN (pcN (R r) w h) (fun i => pcV (VB e R nR) (R r) x y w h i / 1048576) ≤ 99 * sumN (pcN (R r) w h) (fun i => pcV (VB e R nR) (R r) x y w h i % 1048576) := by
    rw [← sumN_mulc]
    exact sumN_mono fun i hi => (hpd i hi).2.1
  have hsum : sumN (pcN (R r) w h) (pcV (VB e R nR) (R r) x y w h) = 1048576 * sumN (pcN (R r) w h) (fun i => pcV (VB e R nR) (R r) x y w h i / 1048576) + sumN (pcN (R r) w h) (fun i => pcV (VB e R nR) (R r) x y w h i % 1048576) := by
    rw [← sumN_mulc, ← sumN_add]
    exact sumN_congr fun i hi => (Int.mul_ediv_add_emod _ _).symm
  have hfb : 1 + sumN (pcN (R r) w h) (fun i => pcV (VB e R nR) (R r) x y w h i % 1048576) ≤ 16 * ((w : Int) * h) - 15 := by
    by_cases hk : rk (R r) = 0
    · have h0 : pcN (R r) w h = 0 := if_pos hk
      rw [h0]
      show 1 + (0 : Int) ≤ _
      omega
    · exact few_base (hG.2 r hr) hc hA.1 hk (hN hk) fun i hi => (hpd i hi).2.2.2
  rw [e1, e2]
  unfold bWp wt
  rw [hsum]
  generalize sumN (pcN (R r) w h) (fun i => pcV (VB e R nR) (R r) x y w h i / 1048576) = C at *
  generalize sumN (pcN (R r) w h) (fun i => pcV (VB e R nR) (R r) x y w h i % 1048576) = F at *
  generalize (w : Int) * h = A at *
  omega
theorem tr_tie (hG : okG nR R) (hr : r < nR) (hc : okCell e x y w h) (hh : holdsF (R r) w h) (hk : rk (R r) ≠ 0) (hN : pcN (R r) w h = 1) : ∃ k, k < 8 ∧ tieP (R r) w h k ∧ (tryP m e (R r) x y w h ↔ m 296 (plN e x y w h 0 + k) ≠ -9) ∧ tryC m e (R r) x y w h (pcN (R r) w h) = rc (R r) + m 294 (plN e x y w h 0 + k) ∧ tryF m e (R r) x y w h (pcN (R r) w h) = 1 + m 295 (plN e x y w h 0 + k) := by
  have ho := hG.2 r hr
  have hnm := pcNm_b ho hk (show 0 < pcN (R r) (w : Int) (h : Int) by omega)
  have hp := (pc_one (e := e) ho hc hh hN).2.2.2.2
  obtain ⟨k, hkk⟩ : ∃ k : Nat, pcNm (R r) 0 = k := ⟨Int.toNat (pcNm (R r) 0), by omega⟩
  rw [hkk, Int.toNat_natCast] at hp
  have hp' : pcI e (R r) x y w h 0 = plN e x y w h 0 + k := hp
  refine ⟨k, by omega, ⟨hh, hk, hN, hkk⟩, ?_, ?_, ?_⟩
  · unfold tryP
    rw [hN]
    constructor
    · rintro ⟨-, -, h3⟩
      rw [← hp']; exact h3 0 (by decide)
    · intro z
      refine ⟨hh, fun q => absurd q hk, fun i hi => ?_⟩
      rw [show i = 0 by omega, hp']; exact z
  · unfold tryC
    rw [hN]
    show rc (R r) + (0 + m 294 (pcI e (R r) x y w h 0)) = _
    rw [hp']; omega
  · unfold tryF
    rw [hN]
    show 1 + (0 + m 295 (pcI e (R r) x y w h 0)) = _
    rw [hp']; omega
/-- what is known of the cell's values in the passes -/
def okV (m : Nat → Nat → Int) (p : Nat) (A : Int) : Prop := ∀ n, n < 8 → m 296 (p + n) ≠ -9 → (m 295 (p + n) ≤ 16 * A - 8 ∧ 1 ≤ m 295 (p + n)) ∧ 0 ≤ m 294 (p + n) ∧ m 294 (p + n) ≤ 99 * m 295 (p + n)
abbrev bV (e : EV) (R : GR) (nR : Nat) (x y w h : Nat) (B : Nat → Int) (r : Nat) (v : Int) : Prop := bVal (bAp e (VB e R nR) R x y w h) (bWp (VB e R nR) R x y w h) (fun r k => tieP (R r) w h k) (tWp R) B r v
theorem Bm_ne {p : Nat} {A : Int} (hv : okV m p A) (hn : n < 8) : Bm m p n ≠ -9 ↔ m 296 (p + n) ≠ -9 := by
  unfold Bm
  by_cases q : m 296 (p + n) = -9
  · rw [if_pos q]; exact ⟨fun z => absurd rfl z, fun z => absurd q z⟩
  · rw [if_neg q]
    obtain ⟨⟨h1, h2⟩, h3, h4⟩ := hv n hn q
    unfold wt
    exact ⟨fun _ => q, fun _ => by omega⟩
theorem tr_val (hG : okG nR R) (hr : r < nR) (hc : okCell e x y w h) (hT : tbP m e R nR x y w h) (hv : okV m (plN e x y w h 0) ((w : Int) * h)) : (tryP m e (R r) x y w h → bV e R nR x y w h (Bm m (plN e x y w h 0)) r (wt (tryC m e (R r) x y w h (pcN (R r) w h)) (tryF m e (R r) x y w h (pcN (R r) w h)))) ∧ ∀ v, bV e R nR x y w h (Bm m (plN e x y w h 0)) r v → tryP m e (R r) x y w h ∧ v = wt (tryC m e (R r) x y w h (pcN (R r) w h)) (tryF m e (R r) x y w h (pcN (R r) w h)) := by
  have hrc := (hG.2 r hr).2.2.1
  have htw : tWp R r = rc (R r) * 1048576 + 1 := by unfold tWp; omega
  by_cases ht : holdsF (R r) w h ∧ rk (R r) ≠ 0 ∧ pcN (R r) w h = 1
  · obtain ⟨hh, hk, hN⟩ := ht
    obtain ⟨k, hk8, a1, a2, a3, a4⟩ := tr_tie (m := m) hG hr hc hh hk hN
    have hB : m 296 (plN e x y w h 0 + k) ≠ -9 → Bm m (plN e x y w h 0) k = wt (m 294 (plN e x y w h 0 + k)) (m 295 (plN e x y w h 0 + k)) := fun q => if_neg q
    refine ⟨fun hp => Or.inr ⟨k, hk8, a1, (Bm_ne hv hk8).2 (a2.1 hp), ?_⟩, ?_⟩
    · rw [hB (a2.1 hp), a3, a4, htw]
      unfold wt; omega
    · rintro v (⟨h1, -⟩ | ⟨k', hk', b1, b2, b3⟩)
      · exact absurd hN (h1.2.2.1 hk)
      · have ek : k' = k := by have := a1.2.2.2; have := b1.2.2.2; omega
        subst ek
        have q := (Bm_ne hv hk').1 b2
        refine ⟨a2.2 q, ?_⟩
        rw [b3, hB q, a3, a4, htw]
        unfold wt; omega
  · by_cases hh : holdsF (R r) w h
    · have hN : rk (R r) ≠ 0 → pcN (R r) w h ≠ 1 := fun z1 z2 => ht ⟨hh, z1, z2⟩
      obtain ⟨t1, t2⟩ := tr_base hG hr hc hN hT
      refine ⟨fun hp => Or.inl ⟨t1.1 hp, (t2 hp).1⟩, ?_⟩
      rintro v (⟨h1, h2⟩ | ⟨k', hk', b1, b2, b3⟩)
      · exact ⟨t1.2 h1, by rw [h2, (t2 (t1.2 h1)).1]⟩
      · exact absurd b1.2.2.1 (hN b1.2.1)
    · refine ⟨fun hp => absurd hp.1 hh, ?_⟩
      rintro v (⟨h1, -⟩ | ⟨k', hk', b1, b2, b3⟩)
      · exact absurd h1.1 hh
      · exact absurd b1.1 hh
theorem tr_F (hG : okG nR R) (hr : r < nR) (hc : okCell e x y w h) (hT : tbP m e R nR x y w h) (hv : okV m (plN e x y w h 0) ((w : Int) * h)) (hp : tryP m e (R r) x y w h) : 1 ≤ tryF m e (R r) x y w h (pcN (R r) w h) := by
  by_cases ht : rk (R r) ≠ 0 ∧ pcN (R r) w h = 1
  · obtain ⟨k, hk8, a1, a2, a3, a4⟩ := tr_tie (m := m) hG hr hc hp.1 ht.1 ht.2
    have := (hv k hk8 (a2.1 hp)).1.2
    omega
  · obtain ⟨-, t2⟩ := tr_base hG hr hc (fun z1 z2 => ht ⟨z1, z2⟩) hT
    exact (t2 hp).2.2.2.1
theorem bV_mono {B B' : Nat → Int} (hB : ∀ k, k < 8 → B k ≠ -9 → B' k ≠ -9 ∧ B' k ≤ B k) {v : Int} (hv : bV e R nR x y w h B r v) : ∃ v', v' ≤ v ∧ bV e R nR x y w h B' r v' := by
  rcases hv with ⟨h1, h2⟩ | ⟨k, hk, h1, h2, h3⟩
  · exact ⟨v, Int.le_refl _, Or.inl ⟨h1, h2⟩⟩
  · obtain ⟨h4, h5⟩ := hB k hk h2
    exact ⟨tWp R r + B' k, by omega, Or.inr ⟨k, hk, h1, h4, rfl⟩⟩
theorem bV_congr {B B' : Nat → Int} (hB : ∀ k, k < 8 → B k = B' k) {v : Int} (hv : bV e R nR x y w h B r v) : bV e R nR x y w h B' r v := by
  rcases hv with ⟨h1, h2⟩ | ⟨k, hk, h1, h2, h3⟩
  · exact Or.inl ⟨h1, h2⟩
  · rw [hB k hk] at h2 h3
    exact Or.inr ⟨k, hk, h1, h2, h3⟩
/-- a table that no rule betters holds the best -/
theorem bell_end (hG : okG nR R) (hc : okCell e x y w h) (hT : tbP m e R nR x y w h) (hv : okV m (plN e x y w h 0) ((w : Int) * h))
    (hJ : ∀ n, n < 8 → m 296 (plN e x y w h 0 + n) ≠ -9 → ∃ r : Nat, m 296 (plN e x y w h 0 + n) = r ∧ r < nR ∧ nmR R r = n ∧ ∃ v, v ≤ Bm m (plN e x y w h 0) n ∧ bV e R nR x y w h (Bm m (plN e x y w h 0)) r v)
    (hno : ∀ r, r < nR → ¬ (tryP m e (R r) x y w h ∧ betterP m (plN e x y w h (nmR R r)) (tryC m e (R r) x y w h (pcN (R r) w h)) (tryF m e (R r) x y w h (pcN (R r) w h)) r)) :
    ∀ n, n < 8 → enB m e R nR x y w h n := by
  have hA2 := area_le (show w ≤ 20 by have := hc.2.2.1; omega) (show h ≤ 20 by have := hc.2.2.2.1; omega)
  have hf : ∀ n, n < 8 → m 296 (plN e x y w h 0 + n) ≠ -9 → 0 ≤ m 295 (plN e x y w h 0 + n) ∧ m 295 (plN e x y w h 0 + n) < 1048576 ∧ 0 ≤ m 294 (plN e x y w h 0 + n) := fun n hn q => by
    have := hv n hn q
    omega
  have hbe : ∀ n, n < 8 → m 296 (plN e x y w h 0 + n) ≠ -9 → Bm m (plN e x y w h 0) n = wt (m 294 (plN e x y w h 0 + n)) (m 295 (plN e x y w h 0 + n)) := fun n hn q => if_neg q
  have hge : ∀ r, r < nR → ∀ n, n < 8 → nmR R r = n → ∀ v, bV e R nR x y w h (Bm m (plN e x y w h 0)) r v → m 296 (plN e x y w h 0 + n) ≠ -9 ∧ Bm m (plN e x y w h 0) n ≤ v ∧ (v = Bm m (plN e x y w h 0) n → m 296 (plN e x y w h 0 + n) ≤ r) := by
    intro r hr n hn hm v hvv
    obtain ⟨h1, h2⟩ := (tr_val hG hr hc hT hv).2 v hvv
    have h3 := fun z => hno r hr ⟨h1, z⟩
    rw [hm] at h3
    unfold betterP at h3
    have e1 : plN e x y w h n = plN e x y w h 0 + n := rfl
    rw [e1] at h3
    have q : m 296 (plN e x y w h 0 + n) ≠ -9 := fun z => h3 (Or.inl z)
    have := hf n hn q
    have hF := tr_F hG hr hc hT hv h1
    rw [hbe n hn q]
    refine ⟨q, ?_, fun z => ?_⟩
    · refine Classical.byContradiction fun z => h3 (Or.inr ?_)
      unfold wt at *
      by_cases q2 : tryC m e (R r) x y w h (pcN (R r) w h) < m 294 (plN e x y w h 0 + n)
      · exact Or.inl q2
      · exact Or.inr ⟨by omega, Or.inl (by omega)⟩
    · refine Classical.byContradiction fun z2 => h3 (Or.inr ?_)
      unfold wt at *
      by_cases q2 : tryC m e (R r) x y w h (pcN (R r) w h) < m 294 (plN e x y w h 0 + n)
      · exact Or.inl q2
      · by_cases q3 : tryF m e (R r) x y w h (pcN (R r) w h) < m 295 (plN e x y w h 0 + n)
        · exact Or.inr ⟨by omega, Or.inl q3⟩
        · exact Or.inr ⟨by omega, Or.inr ⟨by omega, by omega⟩⟩
  have hB : bEqC e R nR (VB e R nR) x y w h (Bm m (plN e x y w h 0)) := by
    intro n hn
    by_cases q : m 296 (plN e x y w h 0 + n) = -9
    · refine Or.inl ⟨if_pos q, fun r hr hm v hvv => ?_⟩
      exact (hge r hr n hn hm v hvv).1 q
    · have h1 := hf n hn q
      have h1' := hv n hn q
      have h2 := hbe n hn q
      obtain ⟨r, h3, h4, h5, v, h6, h7⟩ := hJ n hn q
      have h8 := (hge r h4 n hn h5 v h7).2.1
      have h9 : v = Bm m (plN e x y w h 0) n := by omega
      refine Or.inr ⟨?_, ⟨r, h4, h5, by rw [← h9]; exact h7⟩, fun r hr hm v hvv => (hge r hr n hn hm v hvv).2.1⟩
      rw [h2]; unfold wt; omega
  have hBV : ∀ n, n < 8 → Bm m (plN e x y w h 0) n = VB e R nR x y w h n := fun n hn => VB_uniq hG hc hB hn
  intro n hn
  have e1 : plN e x y w h n = plN e x y w h 0 + n := rfl
  unfold enB
  rw [e1]
  by_cases q : m 296 (plN e x y w h 0 + n) = -9
  · have h1 : VB e R nR x y w h n = -9 := by rw [← hBV n hn]; exact if_pos q
    exact ⟨VP_of hG hc hn (Or.inl ⟨h1, q⟩), fun z => absurd h1 z⟩
  · have h1 := hf n hn q
    have h2 := hbe n hn q
    have h2' : VB e R nR x y w h n = wt (m 294 (plN e x y w h 0 + n)) (m 295 (plN e x y w h 0 + n)) := by rw [← hBV n hn]; exact h2
    obtain ⟨r, h3, h4, h5, v, h6, h7⟩ := hJ n hn q
    have h8 := (hge r h4 n hn h5 v h7).2.1
    have h9 : v = Bm m (plN e x y w h 0) n := by omega
    have hne : VB e R nR x y w h n ≠ -9 := by rw [← hBV n hn]; exact (Bm_ne hv hn).2 q
    refine ⟨VP_of hG hc hn (Or.inr ⟨hne, r, h3, h4, h5, ?_, fun r' hr' hm' z => ?_⟩), fun _ => ?_⟩
    · have := bV_congr hBV h7
      rw [h9, hBV n hn] at this
      exact this
    · have h10 : bV e R nR x y w h (Bm m (plN e x y w h 0)) r' (VB e R nR x y w h n) := bV_congr (fun k hk => (hBV k hk).symm) z
      have := (hge r' (by omega) n hn hm' _ h10).2.2 (hBV n hn).symm
      omega
    · rw [h2']; unfold wt; omega
end BL
