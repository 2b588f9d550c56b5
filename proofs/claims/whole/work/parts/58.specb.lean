/-! THE SPEC of the best on all cells -/
theorem least_int {P : Int → Prop} (h : ∃ w, P w) (h1 : ∀ w, P w → 1 ≤ w) : ∃ w, P w ∧ ∀ w', P w' → w ≤ w' := by
  have key : ∀ N : Nat, ∀ w, P w → w < (N : Int) → ∃ w, P w ∧ ∀ w', P w' → w ≤ w' := by
    intro N
    induction N with
    | zero => intro w hw hl; have := h1 w hw; omega
    | succ N ih =>
      intro w hw hl
      by_cases q : ∃ w', P w' ∧ w' < w
      · obtain ⟨w', hw', hlt⟩ := q
        exact ih w' hw' (by omega)
      · refine ⟨w, hw, fun w' hw' => ?_⟩
        refine Classical.byContradiction fun hc => q ⟨w', hw', by omega⟩
  obtain ⟨w, hw⟩ := h
  have := h1 w hw
  exact key (Int.toNat w + 1) w hw (by omega)
theorem least_nat {P : Nat → Prop} (h : ∃ r, P r) : ∃ r, P r ∧ ∀ r', r' < r → ¬ P r' := by
  obtain ⟨r, hr⟩ := h
  induction r using Nat.strongRecOn with
  | ind r ih =>
    by_cases q : ∃ r', r' < r ∧ P r'
    · obtain ⟨r', h1, h2⟩ := q
      exact ih r' h1 h2
    · exact ⟨r, hr, fun r' h1 h2 => q ⟨r', h1, h2⟩⟩
section BX
variable {nR : Nat} {nm : Nat → Nat} {bA bA' : Nat → Prop} {bW bW' : Nat → Int} {tA : Nat → Nat → Prop} {tW : Nat → Int} {B B' : Nat → Int}
theorem bVal_congr {r : Nat} {w : Int} (hA : bA r ↔ bA' r) (hW : bA r → bW r = bW' r) : bVal bA bW tA tW B r w ↔ bVal bA' bW' tA tW B r w := by
  unfold bVal
  constructor
  · rintro (⟨h1, h2⟩ | h)
    · exact Or.inl ⟨hA.1 h1, by rw [h2, hW h1]⟩
    · exact Or.inr h
  · rintro (⟨h1, h2⟩ | h)
    · exact Or.inl ⟨hA.2 h1, by rw [h2, hW (hA.2 h1)]⟩
    · exact Or.inr h
theorem bEq_congr (hA : ∀ r, r < nR → (bA r ↔ bA' r)) (hW : ∀ r, r < nR → bA r → bW r = bW' r) : bEq nR nm bA bW tA tW B ↔ bEq nR nm bA' bW' tA tW B := by
  have e : ∀ r w, r < nR → (bVal bA bW tA tW B r w ↔ bVal bA' bW' tA tW B r w) := fun r w hr => bVal_congr (hA r hr) (hW r hr)
  constructor
  · intro h n hn
    rcases h n hn with ⟨h1, h2⟩ | ⟨h1, ⟨r, h2, h3, h4⟩, h5⟩
    · exact Or.inl ⟨h1, fun r hr hm w z => h2 r hr hm w ((e r w hr).2 z)⟩
    · exact Or.inr ⟨h1, ⟨r, h2, h3, (e r _ h2).1 h4⟩, fun r hr hm w z => h5 r hr hm w ((e r w hr).2 z)⟩
  · intro h n hn
    rcases h n hn with ⟨h1, h2⟩ | ⟨h1, ⟨r, h2, h3, h4⟩, h5⟩
    · exact Or.inl ⟨h1, fun r hr hm w z => h2 r hr hm w ((e r w hr).1 z)⟩
    · exact Or.inr ⟨h1, ⟨r, h2, h3, (e r _ h2).2 h4⟩, fun r hr hm w z => h5 r hr hm w ((e r w hr).1 z)⟩
def dWt (nR : Nat) (nm : Nat → Nat) (bA : Nat → Prop) (bW : Nat → Int) (tA : Nat → Nat → Prop) (tW : Nat → Int) : Nat → Nat → Int → Prop
  | 0, n, w => ∃ r, r < nR ∧ nm r = n ∧ bA r ∧ w = bW r
  | t + 1, n, w => dWt nR nm bA bW tA tW t n w ∨ ∃ r k w', r < nR ∧ nm r = n ∧ k < 8 ∧ tA r k ∧ dWt nR nm bA bW tA tW t k w' ∧ w = tW r + w'
theorem dWt_1 (hb : ∀ r, r < nR → bA r → 1 ≤ bW r) (ht : ∀ r, 1 ≤ tW r) : ∀ t n w, dWt nR nm bA bW tA tW t n w → 1 ≤ w := by
  intro t
  induction t with
  | zero => rintro n w ⟨r, hr, -, h1, h2⟩; have := hb r hr h1; omega
  | succ t ih =>
    rintro n w (h | ⟨r, k, w', -, -, -, -, h1, h2⟩)
    · exact ih n w h
    · have := ih k w' h1
      have := ht r
      omega
theorem bEq_ex (hb : ∀ r, r < nR → bA r → 1 ≤ bW r) (ht : ∀ r, 1 ≤ tW r) : ∃ B, bEq nR nm bA bW tA tW B := by
  have h0 : ∀ n : Nat, ∃ b : Int, (b = -9 ∧ ∀ w, ¬ ∃ t, dWt nR nm bA bW tA tW t n w) ∨ ((∃ t, dWt nR nm bA bW tA tW t n b) ∧ ∀ w, (∃ t, dWt nR nm bA bW tA tW t n w) → b ≤ w) := by
    intro n
    by_cases q : ∃ w, ∃ t, dWt nR nm bA bW tA tW t n w
    · obtain ⟨w, h1, h2⟩ := least_int q fun w ⟨t, hw⟩ => dWt_1 hb ht t n w hw
      exact ⟨w, Or.inr ⟨h1, h2⟩⟩
    · exact ⟨-9, Or.inl ⟨rfl, fun w z => q ⟨w, z⟩⟩⟩
  obtain ⟨B, hB⟩ := Classical.axiomOfChoice h0
  have hne : ∀ n, B n ≠ -9 → ∃ t, dWt nR nm bA bW tA tW t n (B n) := fun n hn => by
    rcases hB n with ⟨h1, -⟩ | ⟨h1, -⟩
    · exact absurd h1 hn
    · exact h1
  have hle : ∀ n w, (∃ t, dWt nR nm bA bW tA tW t n w) → B n ≠ -9 ∧ B n ≤ w := fun n w hw => by
    rcases hB n with ⟨-, h1⟩ | ⟨⟨t, h1⟩, h2⟩
    · exact absurd hw (h1 w)
    · exact ⟨fun q => by have := dWt_1 hb ht t n _ h1; omega, h2 w hw⟩
  have hv : ∀ r w n, r < nR → nm r = n → bVal bA bW tA tW B r w → ∃ t, dWt nR nm bA bW tA tW t n w := by
    rintro r w n hr hm (⟨h1, h2⟩ | ⟨k, hk, h1, h2, h3⟩)
    · exact ⟨0, r, hr, hm, h1, h2⟩
    · obtain ⟨t, h4⟩ := hne k h2
      exact ⟨t + 1, Or.inr ⟨r, k, B k, hr, hm, hk, h1, h4, h3⟩⟩
  refine ⟨B, fun n hn => ?_⟩
  by_cases q : B n = -9
  · refine Or.inl ⟨q, fun r hr hm w z => ?_⟩
    exact (hle n w (hv r w n hr hm z)).1 q
  · obtain ⟨t, ht2⟩ := hne n q
    refine Or.inr ⟨dWt_1 hb ht t n _ ht2, ?_, fun r hr hm w z => (hle n w (hv r w n hr hm z)).2⟩
    clear hn
    induction t with
    | zero =>
      obtain ⟨r, hr, hm, h1, h2⟩ := ht2
      exact ⟨r, hr, hm, Or.inl ⟨h1, h2⟩⟩
    | succ t ih =>
      rcases ht2 with h | ⟨r, k, w', hr, hm, hk, h1, h2, h3⟩
      · exact ih h
      · obtain ⟨h4, h5⟩ := hle k w' ⟨t, h2⟩
        obtain ⟨t', h6⟩ := hne k h4
        have h7 := (hle n (tW r + B k) ⟨t' + 1, Or.inr ⟨r, k, B k, hr, hm, hk, h1, h6, rfl⟩⟩).2
        exact ⟨r, hr, hm, Or.inr ⟨k, hk, h1, h4, by omega⟩⟩
end BX
def bAp (e : EV) (V : WV) (R : GR) (x y w h r : Nat) : Prop := holdsF (R r) w h ∧ (rk (R r) = 0 → okL e x y w h (rl (R r))) ∧ (rk (R r) ≠ 0 → pcN (R r) w h ≠ 1) ∧ ∀ i, i < pcN (R r) w h → pcV V (R r) x y w h i ≠ -9
def bWp (V : WV) (R : GR) (x y w h r : Nat) : Int := rc (R r) * 1048576 + 1 + sumN (pcN (R r) w h) (pcV V (R r) x y w h)
def tWp (R : GR) (r : Nat) : Int := max (rc (R r)) 0 * 1048576 + 1
def nmR (R : GR) (r : Nat) : Nat := Int.toNat (rn (R r))
def bEqC (e : EV) (R : GR) (nR : Nat) (V : WV) (x y w h : Nat) (B : Nat → Int) : Prop := bEq nR (nmR R) (bAp e V R x y w h) (bWp V R x y w h) (fun r k => tieP (R r) w h k) (tWp R) B
noncomputable def VBf (e : EV) (R : GR) (nR : Nat) : Nat → WV
  | 0 => fun _ _ _ _ _ => -9
  | t + 1 => fun x y w h n => Classical.epsilon (bEqC e R nR (VBf e R nR t) x y w h) n
/-- the least weight of a name on a cell, or -9 -/
noncomputable def VB (e : EV) (R : GR) (nR : Nat) : WV := fun x y w h n => VBf e R nR (w + h) x y w h n
section SB
variable {e : EV} {R : GR} {nR : Nat} {V V' : WV} {x y x' y' w h n t : Nat}
theorem tWp_1 (R : GR) (r : Nat) : 1 ≤ tWp R r := by unfold tWp; omega
theorem bEqC_congr (hG : okG nR R) (hl : ∀ l, okL e x y w h l ↔ okL e x' y' w h l) (hV : ∀ r, r < nR → holdsF (R r) w h → (rk (R r) ≠ 0 → pcN (R r) w h ≠ 1) → ∀ i, i < pcN (R r) w h → pcV V (R r) x y w h i = pcV V' (R r) x' y' w h i) : bEqC e R nR V x y w h = bEqC e R nR V' x' y' w h := by
  funext B
  refine propext (bEq_congr (fun r hr => ?_) fun r hr hA => ?_)
  · unfold bAp
    constructor
    · rintro ⟨h1, h2, h3, h4⟩
      exact ⟨h1, fun z => (hl _).1 (h2 z), h3, fun i hi => by rw [← hV r hr h1 h3 i hi]; exact h4 i hi⟩
    · rintro ⟨h1, h2, h3, h4⟩
      exact ⟨h1, fun z => (hl _).2 (h2 z), h3, fun i hi => by rw [hV r hr h1 h3 i hi]; exact h4 i hi⟩
  · obtain ⟨h1, h2, h3, h4⟩ := hA
    unfold bWp
    rw [sumN_congr (hV r hr h1 h3)]
theorem bEqC_ex (hG : okG nR R) (hV : ∀ r, r < nR → holdsF (R r) w h → (rk (R r) ≠ 0 → pcN (R r) w h ≠ 1) → ∀ i, i < pcN (R r) w h → pcV V (R r) x y w h i = -9 ∨ 1 ≤ pcV V (R r) x y w h i) : ∃ B, bEqC e R nR V x y w h B := by
  refine bEq_ex (fun r hr hA => ?_) (tWp_1 R)
  obtain ⟨h1, h2, h3, h4⟩ := hA
  have h5 := (hG.2 r hr).2.2.1
  have h6 : 0 ≤ sumN (pcN (R r) w h) (pcV V (R r) x y w h) := sumN_nn fun i hi => by
    have h7 := h4 i hi
    rcases hV r hr h1 h3 i hi with q | q
    · exact absurd q h7
    · omega
  unfold bWp
  omega
theorem bEqC_v (hB : ∃ B, bEqC e R nR V x y w h B) (hn : n < 8) : Classical.epsilon (bEqC e R nR V x y w h) n = -9 ∨ 1 ≤ Classical.epsilon (bEqC e R nR V x y w h) n := by
  rcases Classical.epsilon_spec hB n hn with ⟨q, -⟩ | ⟨q, -, -⟩
  · exact Or.inl q
  · exact Or.inr q
theorem VBf_v (hG : okG nR R) : ∀ t x y w h, okCell e x y w h → ∀ n, n < 8 → VBf e R nR t x y w h n = -9 ∨ 1 ≤ VBf e R nR t x y w h n := by
  intro t
  induction t with
  | zero => exact fun _ _ _ _ _ _ _ => Or.inl rfl
  | succ t ih =>
    intro x y w h hc n hn
    refine bEqC_v (bEqC_ex hG fun r hr g hN i hi => ?_) hn
    obtain ⟨hk, p1, p2, p3, p4, p5⟩ := pc_cell (hG.2 r hr) hc g hi
    exact ih _ _ _ _ p5 _ (pcNm_8 (hG.2 r hr) hk hi)
theorem VBf_sol (hG : okG nR R) (hc : okCell e x y w h) (t : Nat) : bEqC e R nR (VBf e R nR t) x y w h (VBf e R nR (t + 1) x y w h) := by
  refine Classical.epsilon_spec (p := bEqC e R nR (VBf e R nR t) x y w h) (bEqC_ex hG fun r hr g hN i hi => ?_)
  obtain ⟨hk, p1, p2, p3, p4, p5⟩ := pc_cell (hG.2 r hr) hc g hi
  exact VBf_v hG t _ _ _ _ p5 _ (pcNm_8 (hG.2 r hr) hk hi)
theorem VBf_fuel (hG : okG nR R) : ∀ t x y w h, okCell e x y w h → w + h ≤ t → ∀ n, VBf e R nR t x y w h n = VB e R nR x y w h n := by
  intro t
  induction t using Nat.strongRecOn with
  | ind t ih =>
    intro x y w h hc ht n
    obtain ⟨h1, h2, -, -, -⟩ := id hc
    obtain ⟨u, rfl⟩ : ∃ u, t = u + 1 := ⟨t - 1, by omega⟩
    obtain ⟨v, hv⟩ : ∃ v, w + h = v + 1 := ⟨w + h - 1, by omega⟩
    unfold VB
    rw [hv]
    show Classical.epsilon (bEqC e R nR (VBf e R nR u) x y w h) n = Classical.epsilon (bEqC e R nR (VBf e R nR v) x y w h) n
    rw [bEqC_congr (V := VBf e R nR u) (V' := VBf e R nR v) hG (fun _ => Iff.rfl) fun r hr g hN i hi => ?_]
    obtain ⟨hk, p1, p2, p3, p4, p5⟩ := pc_cell (hG.2 r hr) hc g hi
    have hl := pc_less (hG.2 r hr) hc g (hN hk) hi
    unfold pcV
    rw [ih u (by omega) _ _ _ _ p5 (by omega), ih v (by omega) _ _ _ _ p5 (by omega)]
theorem VB_eq (hG : okG nR R) (hc : okCell e x y w h) : bEqC e R nR (VB e R nR) x y w h (VB e R nR x y w h) := by
  obtain ⟨h1, h2, -, -, -⟩ := id hc
  obtain ⟨v, hv⟩ : ∃ v, w + h = v + 1 := ⟨w + h - 1, by omega⟩
  have e1 : VB e R nR x y w h = VBf e R nR (v + 1) x y w h := by funext n; rw [← hv]; rfl
  have e2 : bEqC e R nR (VB e R nR) x y w h = bEqC e R nR (VBf e R nR v) x y w h := by
    refine bEqC_congr hG (fun _ => Iff.rfl) fun r hr g hN i hi => ?_
    obtain ⟨hk, p1, p2, p3, p4, p5⟩ := pc_cell (hG.2 r hr) hc g hi
    have hl := pc_less (hG.2 r hr) hc g (hN hk) hi
    unfold pcV
    rw [VBf_fuel hG v _ _ _ _ p5 (by omega)]
  rw [e2, e1]
  exact VBf_sol hG hc v
theorem VB_uniq (hG : okG nR R) (hc : okCell e x y w h) {B : Nat → Int} (hB : bEqC e R nR (VB e R nR) x y w h B) (hn : n < 8) : B n = VB e R nR x y w h n := bEq_uniq (tWp_1 R) hB (VB_eq hG hc) hn
theorem VB_v (hG : okG nR R) (hc : okCell e x y w h) (hn : n < 8) : VB e R nR x y w h n = -9 ∨ 1 ≤ VB e R nR x y w h n := by
  rcases VB_eq hG hc n hn with ⟨q, -⟩ | ⟨q, -, -⟩
  · exact Or.inl q
  · exact Or.inr q
theorem VBf_xy (hG : okG nR R) (he : e.1 = false) : ∀ t x y w h n, VBf e R nR t x y w h n = VBf e R nR t 0 0 w h n := by
  intro t
  induction t with
  | zero => intro x y w h n; rfl
  | succ t ih =>
    intro x y w h n
    show Classical.epsilon (bEqC e R nR (VBf e R nR t) x y w h) n = Classical.epsilon (bEqC e R nR (VBf e R nR t) 0 0 w h) n
    rw [bEqC_congr hG (fun l => ⟨fun _ z => by rw [he] at z; exact absurd z (by decide), fun _ z => by rw [he] at z; exact absurd z (by decide)⟩) fun r hr g hN i hi => pcV_xy ih]
theorem VB_xy (hG : okG nR R) (he : e.1 = false) : VB e R nR x y w h n = VB e R nR 0 0 w h n := VBf_xy hG he _ _ _ _ _ _
/-- the best's rule at a name on a cell: the least one that brings the least weight -/
def isPk (e : EV) (R : GR) (nR : Nat) (x y w h n r : Nat) : Prop := r < nR ∧ nmR R r = n ∧ bVal (bAp e (VB e R nR) R x y w h) (bWp (VB e R nR) R x y w h) (fun r k => tieP (R r) w h k) (tWp R) (VB e R nR x y w h) r (VB e R nR x y w h n) ∧ ∀ r', r' < r → nmR R r' = n → ¬ bVal (bAp e (VB e R nR) R x y w h) (bWp (VB e R nR) R x y w h) (fun r k => tieP (R r) w h k) (tWp R) (VB e R nR x y w h) r' (VB e R nR x y w h n)
def pkP (e : EV) (R : GR) (nR : Nat) (x y w h n : Nat) (v : Int) : Prop := (VB e R nR x y w h n = -9 ∧ v = -9) ∨ (VB e R nR x y w h n ≠ -9 ∧ ∃ r : Nat, v = r ∧ isPk e R nR x y w h n r)
noncomputable def VP (e : EV) (R : GR) (nR : Nat) (x y w h n : Nat) : Int := Classical.epsilon (pkP e R nR x y w h n)
theorem pkP_uniq {v v' : Int} (h1 : pkP e R nR x y w h n v) (h2 : pkP e R nR x y w h n v') : v = v' := by
  rcases h1 with ⟨a1, a2⟩ | ⟨a1, r, a2, a3⟩ <;> rcases h2 with ⟨b1, b2⟩ | ⟨b1, r', b2, b3⟩
  · omega
  · exact absurd a1 b1
  · exact absurd b1 a1
  · have c1 : ¬ r < r' := fun q => b3.2.2.2 r q a3.2.1 a3.2.2.1
    have c2 : ¬ r' < r := fun q => a3.2.2.2 r' q b3.2.1 b3.2.2.1
    omega
theorem VP_spec (hG : okG nR R) (hc : okCell e x y w h) (hn : n < 8) : pkP e R nR x y w h n (VP e R nR x y w h n) := by
  refine Classical.epsilon_spec (p := pkP e R nR x y w h n) ?_
  rcases VB_eq hG hc n hn with ⟨q, -⟩ | ⟨q, ⟨r, hr, hm, hv⟩, -⟩
  · exact ⟨-9, Or.inl ⟨q, rfl⟩⟩
  · obtain ⟨r0, ⟨a1, a2, a3⟩, h2⟩ := least_nat (P := fun r => r < nR ∧ nmR R r = n ∧ bVal (bAp e (VB e R nR) R x y w h) (bWp (VB e R nR) R x y w h) (fun r k => tieP (R r) w h k) (tWp R) (VB e R nR x y w h) r (VB e R nR x y w h n)) ⟨r, hr, hm, hv⟩
    exact ⟨(r0 : Int), Or.inr ⟨by omega, r0, rfl, a1, a2, a3, fun r' hr' hm' z => h2 r' hr' ⟨by omega, hm', z⟩⟩⟩
theorem VP_of (hG : okG nR R) (hc : okCell e x y w h) (hn : n < 8) {v : Int} (hv : pkP e R nR x y w h n v) : v = VP e R nR x y w h n := pkP_uniq hv (VP_spec hG hc hn)
end SB
