/-! what the rules of a cell bring to the knot of its fresh names -/
def kdG (e : EV) (R : GR) (nR : Nat) (x y w h : Nat) (F : Nat → Prop) (r : Nat) : Prop := F (nmR R r) ∧ (bAp e (VB e R nR) R x y w h r ∨ ∃ k, k < 8 ∧ tieP (R r) w h k ∧ ¬ F k ∧ VB e R nR x y w h k ≠ -9)
noncomputable def kdW (e : EV) (R : GR) (nR : Nat) (x y w h : Nat) (r : Nat) : Int := cI (rk (R r) ≠ 0 ∧ pcN (R r) w h = 1) (VW e R nR x y w h (Int.toNat (pcNm (R r) 0))) (ctrW e (VW e R nR) (R r) x y w h)
noncomputable def kdV (e : EV) (R : GR) (nR : Nat) (x y w h : Nat) (r : Nat) : Int := cI (rk (R r) ≠ 0 ∧ pcN (R r) w h = 1) (tWp R r + VB e R nR x y w h (Int.toNat (pcNm (R r) 0))) (bWp (VB e R nR) R x y w h r)
def kdT (R : GR) (w h : Nat) (F : Nat → Prop) (r k : Nat) : Prop := F (nmR R r) ∧ tieP (R r) w h k ∧ F k
noncomputable def KDc (e : EV) (R : GR) (nR : Nat) (x y w h : Nat) (F : Nat → Prop) : KD := (nmR R, kdG e R nR x y w h F, kdW e R nR x y w h, kdV e R nR x y w h, kdT R w h F, tWp R)
noncomputable def kdB (e : EV) (R : GR) (nR : Nat) (x y w h : Nat) (F : Nat → Prop) (n : Nat) : Int := cI (F n) (VB e R nR x y w h n) (-9)
section KC
variable {e : EV} {R : GR} {nR : Nat} {x y w h n r k : Nat} {F : Nat → Prop}
theorem VB_top (hG : okG nR R) (hc : okCell e x y w h) (hn : n < 8) : VB e R nR x y w h n = -9 ∨ (1 ≤ VB e R nR x y w h n ∧ VB e R nR x y w h n ≤ 1000000000000) := by
  rcases VB_v hG hc hn with q | q
  · exact Or.inl q
  · have hA2 := area_le (show w ≤ 20 by have := hc.2.2.1; omega) (show h ≤ 20 by have := hc.2.2.2.1; omega)
    have := VB_decC hG hc hn (by omega)
    unfold okDv at this
    generalize VB e R nR x y w h n = v at *
    generalize (w : Int) * h = A at *
    refine Or.inr ⟨q, ?_⟩
    have h1 : v = 1048576 * (v / 1048576) + v % 1048576 := (Int.mul_ediv_add_emod _ _).symm
    generalize v / 1048576 = c at *
    generalize v % 1048576 = g at *
    omega
theorem tie_rk (ht : tieP (R r) w h k) : (rk (R r) ≠ 0 ∧ pcN (R r) w h = 1) ∧ Int.toNat (pcNm (R r) 0) = k := ⟨⟨ht.2.1, ht.2.2.1⟩, by rw [ht.2.2.2, Int.toNat_natCast]⟩
theorem bA_rk (ha : bAp e (VB e R nR) R x y w h r) : ¬ (rk (R r) ≠ 0 ∧ pcN (R r) w h = 1) := fun z => ha.2.2.1 z.1 z.2
theorem tie_8 (hG : okG nR R) (hr : r < nR) (ht : tieP (R r) w h k) : k < 8 := by
  have := pcNm_b (hG.2 r hr) ht.2.1 (show 0 < pcN (R r) (w : Int) (h : Int) by have := ht.2.2.1; omega)
  have := ht.2.2.2
  omega
theorem bW_top (hG : okG nR R) (hc : okCell e x y w h) (hr : r < nR) (ha : bAp e (VB e R nR) R x y w h r) : 1 ≤ bWp (VB e R nR) R x y w h r ∧ bWp (VB e R nR) R x y w h r ≤ 100000000000000 := by
  have h5 := (hG.2 r hr).2.2.1
  have hs : isSc (w : Int) (h : Int) := by obtain ⟨c1, c2, c3, c4, -⟩ := hc; exact ⟨by omega, by omega⟩
  have h20 := pcN_20 (hG.2 r hr) hs
  have h6 := sumN_le (n := pcN (R r) w h) (f := pcV (VB e R nR) (R r) x y w h) (m := 1000000000000) fun i hi => by
    obtain ⟨hk, p1, p2, p3, p4, p5⟩ := pc_cell (hG.2 r hr) hc ha.1 hi
    have h7 := ha.2.2.2 i hi
    rcases VB_top hG p5 (pcNm_8 (hG.2 r hr) hk hi) with q | q
    · exact absurd q h7
    · exact ⟨by have := q.1; unfold pcV; omega, q.2⟩
  have h8 : ((pcN (R r) w h : Nat) : Int) ≤ 20 := by omega
  unfold bWp
  generalize sumN (pcN (R r) w h) (pcV (VB e R nR) (R r) x y w h) = z at *
  generalize ((pcN (R r) w h : Nat) : Int) = c at *
  omega
theorem ctr_hyp (hG : okG nR R) (hc : okCell e x y w h) (hr : r < nR) : ctrW e (VW e R nR) (R r) x y w h ≠ 0 ↔ bAp e (VB e R nR) R x y w h r := ctrW_ne hG hc hr fun g _ i hi => by
  obtain ⟨hk, p1, p2, p3, p4, p5⟩ := pc_cell (hG.2 r hr) hc g hi
  exact VW_madeC hG p5 (pcNm_8 (hG.2 r hr) hk hi)
theorem kd_ok (hG : okG nR R) (hc : okCell e x y w h) : okKD (KDc e R nR x y w h F) nR := by
  refine ⟨hG.1, fun r hr => ?_⟩
  have hrc := (hG.2 r hr).2.2.1
  have hnm := (hG.2 r hr).1
  refine ⟨by show nmR R r < 8; unfold nmR; omega, ?_, ?_, ?_, ?_⟩
  · rintro ⟨-, ha | ⟨k, hk, ht, hF, hv⟩⟩
    · have e1 : kW (KDc e R nR x y w h F) r = ctrW e (VW e R nR) (R r) x y w h := cI_f (bA_rk ha)
      have e2 : kV (KDc e R nR x y w h F) r = bWp (VB e R nR) R x y w h r := cI_f (bA_rk ha)
      rw [e1, e2]
      exact ⟨ctrW_ok fun g _ _ hi => pcV_ok hG hc hr g hi, (ctr_hyp hG hc hr).2 ha, bW_top hG hc hr ha⟩
    · obtain ⟨g1, g2⟩ := tie_rk ht
      have e1 : kW (KDc e R nR x y w h F) r = VW e R nR x y w h (Int.toNat (pcNm (R r) 0)) := cI_t g1
      have e2 : kV (KDc e R nR x y w h F) r = tWp R r + VB e R nR x y w h (Int.toNat (pcNm (R r) 0)) := cI_t g1
      rw [e1, e2, g2]
      have := VB_top hG hc hk
      refine ⟨VW_okC hG hc hk, (VW_madeC hG hc hk).2 hv, ?_⟩
      unfold tWp
      omega
  · show 1 ≤ tWp R r ∧ tWp R r ≤ 1000000000
    unfold tWp; omega
  · rintro ⟨-, ha | ⟨k, hk, ht, hF, hv⟩⟩ k' ⟨-, ht', hF'⟩
    · exact bA_rk ha (tie_rk ht').1
    · have := (tie_rk ht).2
      have := (tie_rk ht').2
      have e1 : k = k' := by omega
      exact hF (e1 ▸ hF')
  · rintro k k' ⟨-, ht, -⟩ ⟨-, ht', -⟩
    have := (tie_rk ht).2
    have := (tie_rk ht').2
    omega
theorem kd_att (hG : okG nR R) (hn : n < 8) (hF : F n) : attK (KDc e R nR x y w h F) nR (kdB e R nR x y w h F) n r ↔ r < nR ∧ nmR R r = n ∧ VB e R nR x y w h n ≠ -9 ∧ bV e R nR x y w h (VB e R nR x y w h) r (VB e R nR x y w h n) ∨ (r < nR ∧ nmR R r = n ∧ VB e R nR x y w h n = -9 ∧ False) ∨ (VB e R nR x y w h n = -9 ∧ attK (KDc e R nR x y w h F) nR (kdB e R nR x y w h F) n r) := by
  have eB : kdB e R nR x y w h F n = VB e R nR x y w h n := cI_t hF
  by_cases hv : VB e R nR x y w h n = -9
  · constructor
    · exact fun q => Or.inr (Or.inr ⟨hv, q⟩)
    · rintro (q | q | q)
      · exact absurd hv q.2.2.1
      · exact absurd q.2.2.2 id
      · exact q.2
  · constructor
    · rintro ⟨h1, h2, h3⟩
      refine Or.inl ⟨h1, h2, hv, ?_⟩
      rcases h3 with ⟨⟨-, ha | ⟨k, hk, ht, hFk, hvk⟩⟩, h4⟩ | ⟨k, hk, ⟨-, ht, hFk⟩, h4, h5⟩
      · have e2 : kV (KDc e R nR x y w h F) r = bWp (VB e R nR) R x y w h r := cI_f (bA_rk ha)
        rw [eB, e2] at h4
        exact Or.inl ⟨ha, h4⟩
      · obtain ⟨g1, g2⟩ := tie_rk ht
        have e2 : kV (KDc e R nR x y w h F) r = tWp R r + VB e R nR x y w h (Int.toNat (pcNm (R r) 0)) := cI_t g1
        rw [eB, e2, g2] at h4
        exact Or.inr ⟨k, hk, ht, hvk, h4⟩
      · have eK : kdB e R nR x y w h F k = VB e R nR x y w h k := cI_t hFk
        rw [eK] at h4
        rw [eB, eK] at h5
        exact Or.inr ⟨k, hk, ht, h4, h5⟩
    · rintro (⟨h1, h2, -, h3⟩ | q | q)
      · refine ⟨h1, h2, ?_⟩
        have hFr : F (nmR R r) := h2.symm ▸ hF
        rw [eB]
        rcases h3 with ⟨ha, h4⟩ | ⟨k, hk, ht, hvk, h4⟩
        · have e2 : kV (KDc e R nR x y w h F) r = bWp (VB e R nR) R x y w h r := cI_f (bA_rk ha)
          exact Or.inl ⟨⟨hFr, Or.inl ha⟩, by rw [e2]; exact h4⟩
        · by_cases hFk : F k
          · have eK : kdB e R nR x y w h F k = VB e R nR x y w h k := cI_t hFk
            exact Or.inr ⟨k, hk, ⟨hFr, ht, hFk⟩, by rw [eK]; exact hvk, by rw [eK]; exact h4⟩
          · obtain ⟨g1, g2⟩ := tie_rk ht
            have e2 : kV (KDc e R nR x y w h F) r = tWp R r + VB e R nR x y w h (Int.toNat (pcNm (R r) 0)) := cI_t g1
            exact Or.inl ⟨⟨hFr, Or.inr ⟨k, hk, ht, hFk, hvk⟩⟩, by rw [e2, g2]; exact h4⟩
      · exact absurd q.2.2.2 id
      · exact absurd q.1 hv
theorem kd_bst (hG : okG nR R) (hc : okCell e x y w h) : bstK (KDc e R nR x y w h F) nR (kdB e R nR x y w h F) := by
  have hE := VB_eq hG hc
  have n8 : ∀ r, r < nR → nmR R r < 8 := fun r hr => by have := (hG.2 r hr).1; unfold nmR; omega
  refine ⟨fun n hn => ?_, fun r hr hg => ?_, fun r k hr hk ht hv => ?_, fun n hn hv => ?_⟩
  · by_cases z : F n
    · have e1 : kdB e R nR x y w h F n = VB e R nR x y w h n := cI_t z
      rw [e1]
      rcases VB_top hG hc hn with q | q
      · exact Or.inl q
      · exact Or.inr ⟨q.1, by omega⟩
    · exact Or.inl (cI_f z)
  · have hF : F (nmR R r) := hg.1
    have e1 : kdB e R nR x y w h F (kn (KDc e R nR x y w h F) r) = VB e R nR x y w h (nmR R r) := cI_t hF
    rw [e1]
    have hbv : ∃ v, bV e R nR x y w h (VB e R nR x y w h) r v ∧ v = kV (KDc e R nR x y w h F) r := by
      rcases hg.2 with ha | ⟨k, hk, ht, hFk, hvk⟩
      · exact ⟨_, Or.inl ⟨ha, rfl⟩, (cI_f (bA_rk ha)).symm⟩
      · obtain ⟨g1, g2⟩ := tie_rk ht
        have e2 : kV (KDc e R nR x y w h F) r = tWp R r + VB e R nR x y w h (Int.toNat (pcNm (R r) 0)) := cI_t g1
        exact ⟨_, Or.inr ⟨k, hk, ht, hvk, rfl⟩, by rw [e2, g2]⟩
    obtain ⟨v, h1, h2⟩ := hbv
    rw [← h2]
    rcases hE (nmR R r) (n8 r hr) with ⟨-, q⟩ | ⟨q1, -, q2⟩
    · exact absurd h1 (q r hr rfl v)
    · exact ⟨by omega, q2 r hr rfl v h1⟩
  · obtain ⟨hF, htie, hFk⟩ := ht
    have e1 : kdB e R nR x y w h F (kn (KDc e R nR x y w h F) r) = VB e R nR x y w h (nmR R r) := cI_t hF
    have e2 : kdB e R nR x y w h F k = VB e R nR x y w h k := cI_t hFk
    rw [e2] at hv
    rw [e1, e2]
    have h1 : bV e R nR x y w h (VB e R nR x y w h) r (tWp R r + VB e R nR x y w h k) := Or.inr ⟨k, hk, htie, hv, rfl⟩
    rcases hE (nmR R r) (n8 r hr) with ⟨-, q⟩ | ⟨q1, -, q2⟩
    · exact absurd h1 (q r hr rfl _)
    · exact ⟨by omega, q2 r hr rfl _ h1⟩
  · by_cases z : F n
    · have e1 : kdB e R nR x y w h F n = VB e R nR x y w h n := cI_t z
      rw [e1] at hv
      rcases hE n hn with ⟨q, -⟩ | ⟨-, ⟨r, hr, hm, hb⟩, -⟩
      · exact absurd q hv
      · obtain ⟨a1, a2, a3⟩ := (kd_att hG hn z).2 (Or.inl ⟨hr, hm, hv, hb⟩)
        exact ⟨r, a1, a2, a3⟩
    · exact absurd (cI_f z) hv
theorem kd_pk (hG : okG nR R) (hc : okCell e x y w h) (hn : n < 8) (hF : F n) {v : Int} (hv : pkK (KDc e R nR x y w h F) nR (kdB e R nR x y w h F) n v) : v = VP e R nR x y w h n := by
  have e1 : kdB e R nR x y w h F n = VB e R nR x y w h n := cI_t hF
  refine VP_of hG hc hn ?_
  rcases hv with ⟨h1, h2⟩ | ⟨h1, r, h2, h3, h4⟩
  · rw [e1] at h1
    exact Or.inl ⟨h1, h2⟩
  · rw [e1] at h1
    rcases (kd_att hG hn hF).1 h3 with ⟨a1, a2, -, a3⟩ | q | q
    · refine Or.inr ⟨h1, r, h2, a1, a2, a3, fun r' hr' hm' hb => ?_⟩
      have := h4 r' ((kd_att hG hn hF).2 (Or.inl ⟨by omega, hm', h1, hb⟩))
      omega
    · exact absurd q.2.2.2 id
    · exact absurd q.1 h1
theorem lK_nn (D : KD) (r n k : Nat) : 0 ≤ lK D r n k := by
  induction r with
  | zero => exact Int.le_refl 0
  | succ r ih =>
    show 0 ≤ lK D r n k + cI (kn D r = n ∧ kT D r k) 1 0
    by_cases q : kn D r = n ∧ kT D r k
    · rw [cI_t q]; omega
    · rw [cI_f q]; omega
theorem kd_ways (hG : okG nR R) (hc : okCell e x y w h) (hn : n < 8) (hF : F n) : wS (lK (KDc e R nR x y w h F) nR) (bK (KDc e R nR x y w h F) nR) n = VW e R nR x y w h n := by
  have hL := leadF_ok (w := w) (h := h) hG
  have hL40 := fun r n k => leadF_b (R := R) (w := w) (h := h) r n k
  have hbok : ∀ n, n < 8 → wOK (baseF e (VW e R nR) R x y w h nR n) := fun n _ => baseV_ok hG hc n
  have hVe : ∀ k, VW e R nR x y w h k = wS (leadF R w h nR) (baseF e (VW e R nR) R x y w h nR) k := fun k => VW_eq hG hc k
  have okV : ∀ k, k < 8 → wOK (VW e R nR x y w h k) := fun k hk => VW_okC hG hc hk
  rw [hVe]
  have h40 := hG.1
  have okL : ∀ r n k, r ≤ nR → wOK (leadF R w h r n k) := fun r n k hr => by
    have := hL40 r n k
    exact Or.inr ⟨this.1, by omega⟩
  have okT : ∀ r n, r ≤ nR → ∀ k, k < 8 → wOK (cI (F k) 0 (wmult (leadF R w h r n k) (VW e R nR x y w h k))) := fun r n hr k hk => by
    by_cases z : F k
    · rw [cI_t z]; exact wOK_0
    · rw [cI_f z]; exact wOK_mult (okL r n k hr) (okV k hk)
  refine rs_all hbok hL (lK_nn _ nR) (fun n k hn hk => ?_) (fun n hn hFn => ?_) (fun n hn hFn => ?_) hn hF
  · have key : ∀ r, r ≤ nR → lK (KDc e R nR x y w h F) r n k = cI (F n ∧ F k) (leadF R w h r n k) 0 := by
      intro r
      induction r with
      | zero =>
        intro _
        by_cases z : F n ∧ F k
        · rw [cI_t z]; rfl
        · rw [cI_f z]; rfl
      | succ r ih =>
        intro hr
        show lK (KDc e R nR x y w h F) r n k + cI (nmR R r = n ∧ kdT R w h F r k) 1 0 = cI (F n ∧ F k) (leadF R w h r n k + cI (rn (R r) = n ∧ tieP (R r) w h k) 1 0) 0
        rw [ih (by omega)]
        have hnm := nmR_eq (n := n) hG (show r < nR by omega)
        by_cases z : F n ∧ F k
        · rw [cI_t z, cI_t z]
          by_cases q : rn (R r) = n ∧ tieP (R r) w h k
          · rw [cI_t q, cI_t ⟨hnm.2 q.1, (hnm.2 q.1).symm ▸ z.1, q.2, z.2⟩]
          · rw [cI_f q, cI_f fun y => q ⟨hnm.1 y.1, y.2.2.1⟩]
        · rw [cI_f z, cI_f z, cI_f (p := nmR R r = n ∧ kdT R w h F r k) fun y => z ⟨y.1 ▸ y.2.1, y.2.2.2⟩]; rfl
    exact key nR (Nat.le_refl _)
  · have key : ∀ r, r ≤ nR → bK (KDc e R nR x y w h F) r n = wsum (baseF e (VW e R nR) R x y w h r n) (fun k => cI (F k) 0 (wmult (leadF R w h r n k) (VW e R nR x y w h k))) 8 := by
      intro r
      induction r with
      | zero =>
        intro _
        refine (wsum_0 wOK_0 fun k hk => ?_).symm
        show cI (F k) 0 (wmult 0 (VW e R nR x y w h k)) = 0
        rw [wmult_0l]
        by_cases z : F k
        · rw [cI_t z]
        · rw [cI_f z]
      | succ r ih =>
        intro hr
        have hr' : r < nR := by omega
        have ih := ih (by omega)
        have okB : wOK (baseF e (VW e R nR) R x y w h r n) := baseF_ok (nR := nR) (fun _ hr g _ _ hi => pcV_ok hG hc hr g hi) r (by omega) n
        have okC : wOK (ctrW e (VW e R nR) (R r) x y w h) := ctrW_ok fun g _ _ hi => pcV_ok hG hc hr' g hi
        have okS := wsum_ok (n := 8) okB (okT r n (by omega))
        have hnm := nmR_eq (n := n) hG hr'
        show wplus (bK (KDc e R nR x y w h F) r n) (cI (nmR R r = n ∧ kdG e R nR x y w h F r) (kdW e R nR x y w h r) 0) = wsum (wplus (baseF e (VW e R nR) R x y w h r n) (cI (rn (R r) = n) (ctrW e (VW e R nR) (R r) x y w h) 0)) (fun k => cI (F k) 0 (wmult (leadF R w h r n k + cI (rn (R r) = n ∧ tieP (R r) w h k) 1 0) (VW e R nR x y w h k))) 8
        rw [ih]
        by_cases q : rn (R r) = n
        · have q' := hnm.2 q
          have hFr : F (nmR R r) := q'.symm ▸ hFn
          rw [cI_t q]
          by_cases ht : ∃ k, tieP (R r) w h k
          · obtain ⟨k0, ht⟩ := ht
            obtain ⟨g1, g2⟩ := tie_rk ht
            have hk0 := tie_8 hG hr' ht
            have hnb : ¬ bAp e (VB e R nR) R x y w h r := fun z => bA_rk z g1
            have ec : ctrW e (VW e R nR) (R r) x y w h = 0 := Classical.byContradiction fun z => hnb ((ctr_hyp hG hc hr').1 z)
            have huniq : ∀ k, tieP (R r) w h k → k = k0 := fun k hk => by have := (tie_rk hk).2; omega
            have ekw : kdW e R nR x y w h r = VW e R nR x y w h k0 := by
              have : kdW e R nR x y w h r = VW e R nR x y w h (Int.toNat (pcNm (R r) 0)) := cI_t g1
              rw [this, g2]
            rw [ec, wplus_0 okB, ekw]
            by_cases hFk : F k0
            · rw [cI_f fun z => by
                rcases z.2.2 with y | ⟨k, hk, y1, y2, -⟩
                · exact hnb y
                · rw [huniq k y1] at y2; exact y2 hFk, wplus_0 okS]
              refine wsum_congr fun k hk => ?_
              by_cases z : F k
              · rw [cI_t z, cI_t z]
              · rw [cI_f z, cI_f z, cI_f (p := rn (R r) = n ∧ tieP (R r) w h k) fun y => z ((huniq k y.2).symm ▸ hFk), Int.add_zero]
            · have e3 : cI (nmR R r = n ∧ kdG e R nR x y w h F r) (VW e R nR x y w h k0) 0 = VW e R nR x y w h k0 := by
                by_cases hv : VB e R nR x y w h k0 = -9
                · have hv0 : VW e R nR x y w h k0 = 0 := Classical.byContradiction fun z => (VW_madeC hG hc hk0).1 z hv
                  rw [hv0]
                  by_cases z : nmR R r = n ∧ kdG e R nR x y w h F r
                  · rw [cI_t z]
                  · rw [cI_f z]
                · exact cI_t ⟨q', hFr, Or.inr ⟨k0, hk0, ht, hFk, hv⟩⟩
              rw [e3, wsum_add okB (okV k0 hk0) 8 (okT r n (by omega)) hk0]
              refine wsum_congr fun k hk => ?_
              show (if k = k0 then wplus (cI (F k) 0 (wmult (leadF R w h r n k) (VW e R nR x y w h k))) (VW e R nR x y w h k0) else cI (F k) 0 (wmult (leadF R w h r n k) (VW e R nR x y w h k))) = _
              by_cases z : k = k0
              · subst z
                rw [if_pos rfl, cI_f hFk, cI_f hFk, cI_t ⟨q, ht⟩, wmult_succ (hL40 r n k).1 (okV k hk)]
              · rw [if_neg z]
                by_cases y : F k
                · rw [cI_t y, cI_t y]
                · rw [cI_f y, cI_f y, cI_f fun v => z (huniq k v.2), Int.add_zero]
          · have e3 : cI (nmR R r = n ∧ kdG e R nR x y w h F r) (kdW e R nR x y w h r) 0 = ctrW e (VW e R nR) (R r) x y w h := by
              by_cases hb : bAp e (VB e R nR) R x y w h r
              · rw [cI_t ⟨q', hFr, Or.inl hb⟩]
                exact cI_f (bA_rk hb)
              · have ec : ctrW e (VW e R nR) (R r) x y w h = 0 := Classical.byContradiction fun z => hb ((ctr_hyp hG hc hr').1 z)
                rw [ec]
                exact cI_f fun z => by
                  rcases z.2.2 with y | ⟨k, hk, y1, -⟩
                  · exact hb y
                  · exact ht ⟨k, y1⟩
            rw [e3, wsum_base okB okC 8 (okT r n (by omega))]
            refine wsum_congr fun k hk => ?_
            rw [cI_f (p := rn (R r) = n ∧ tieP (R r) w h k) fun y => ht ⟨k, y.2⟩, Int.add_zero]
        · rw [cI_f fun z => q (hnm.1 z.1), cI_f q, wplus_0 okS, wplus_0 okB]
          refine wsum_congr fun k hk => ?_
          rw [cI_f (p := rn (R r) = n ∧ tieP (R r) w h k) fun y => q y.1, Int.add_zero]
    rw [key nR (Nat.le_refl _)]
    refine wsum_congr fun k hk => ?_
    rw [hVe k]
  · have key : ∀ r, r ≤ nR → bK (KDc e R nR x y w h F) r n = 0 := by
      intro r
      induction r with
      | zero => exact fun _ => rfl
      | succ r ih =>
        intro hr
        show wplus (bK (KDc e R nR x y w h F) r n) (cI (nmR R r = n ∧ kdG e R nR x y w h F r) (kdW e R nR x y w h r) 0) = 0
        rw [ih (by omega), cI_f (p := nmR R r = n ∧ kdG e R nR x y w h F r) fun z => hFn (z.1 ▸ z.2.1)]
        rfl
    exact key nR (Nat.le_refl _)
end KC
