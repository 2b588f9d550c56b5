/-! THE SPEC of ways on all cells -/
section SW
variable {e : EV} {R : GR} {nR : Nat} {V V' : WV} {x y x' y' w h n t : Nat}
theorem pcNm_8 {d : RD} (ho : okR d) {w h : Int} {i : Nat} (hk : rk d ≠ 0) (hi : i < pcN d w h) : Int.toNat (pcNm d i) < 8 := by
  have := pcNm_b ho hk hi
  omega
theorem pcN_k {d : RD} {w h : Int} {i : Nat} (hi : i < pcN d w h) : rk d ≠ 0 := fun q => by
  have e : pcN d w h = 0 := if_pos q
  omega
theorem prodW_congr {d : RD} (hV : ∀ i, i < pcN d w h → pcV V d x y w h i = pcV V' d x' y' w h i) : ∀ i, i ≤ pcN d w h → prodW V d x y w h i = prodW V' d x' y' w h i := by
  intro i
  induction i with
  | zero => exact fun _ => rfl
  | succ i ih =>
    intro hi
    show wmult (prodW V d x y w h i) (pcV V d x y w h i) = wmult (prodW V' d x' y' w h i) (pcV V' d x' y' w h i)
    rw [ih (by omega), hV i (by omega)]
theorem ctrW_congr {d : RD} (hl : okL e x y w h (rl d) ↔ okL e x' y' w h (rl d)) (hV : holdsF d w h → pcN d w h ≠ 1 → ∀ i, i < pcN d w h → pcV V d x y w h i = pcV V' d x' y' w h i) : ctrW e V d x y w h = ctrW e V' d x' y' w h := by
  unfold ctrW
  by_cases g : holdsF d w h
  · rw [cI_t g, cI_t g]
    by_cases hk : rk d = 0
    · rw [cI_t hk, cI_t hk]
      by_cases q : okL e x y w h (rl d)
      · rw [cI_t q, cI_t (hl.1 q)]
      · rw [cI_f q, cI_f fun z => q (hl.2 z)]
    · rw [cI_f hk, cI_f hk]
      by_cases hN : pcN d w h = 1
      · rw [cI_t hN, cI_t hN]
      · rw [cI_f hN, cI_f hN]
        exact prodW_congr (hV g hN) _ (Nat.le_refl _)
  · rw [cI_f g, cI_f g]
theorem baseF_congr (hl : ∀ l, okL e x y w h l ↔ okL e x' y' w h l) (hV : ∀ r, r < nR → holdsF (R r) w h → pcN (R r) w h ≠ 1 → ∀ i, i < pcN (R r) w h → pcV V (R r) x y w h i = pcV V' (R r) x' y' w h i) : ∀ r, r ≤ nR → ∀ n, baseF e V R x y w h r n = baseF e V' R x' y' w h r n := by
  intro r
  induction r with
  | zero => exact fun _ _ => rfl
  | succ r ih =>
    intro hr n
    show wplus (baseF e V R x y w h r n) (cI (rn (R r) = n) (ctrW e V (R r) x y w h) 0) = wplus (baseF e V' R x' y' w h r n) (cI (rn (R r) = n) (ctrW e V' (R r) x' y' w h) 0)
    rw [ih (by omega) n, ctrW_congr (hl _) (hV r (by omega))]
noncomputable def VWf (e : EV) (R : GR) (nR : Nat) : Nat → WV
  | 0 => fun _ _ _ _ _ => 0
  | t + 1 => fun x y w h n => wS (leadF R w h nR) (baseF e (VWf e R nR t) R x y w h nR) n
/-- the ways of a name on a cell -/
noncomputable def VW (e : EV) (R : GR) (nR : Nat) : WV := fun x y w h n => VWf e R nR (w + h) x y w h n
theorem VWf_fuel (hG : okG nR R) : ∀ t x y w h, okCell e x y w h → w + h ≤ t → ∀ n, VWf e R nR t x y w h n = VW e R nR x y w h n := by
  intro t
  induction t using Nat.strongRecOn with
  | ind t ih =>
    intro x y w h hc ht n
    obtain ⟨h1, h2, -, -, -⟩ := id hc
    obtain ⟨u, rfl⟩ : ∃ u, t = u + 1 := ⟨t - 1, by omega⟩
    obtain ⟨v, hv⟩ : ∃ v, w + h = v + 1 := ⟨w + h - 1, by omega⟩
    unfold VW
    rw [hv]
    show wS (leadF R w h nR) (baseF e (VWf e R nR u) R x y w h nR) n = wS (leadF R w h nR) (baseF e (VWf e R nR v) R x y w h nR) n
    have : baseF e (VWf e R nR u) R x y w h nR = baseF e (VWf e R nR v) R x y w h nR := by
      funext m
      refine baseF_congr (nR := nR) (fun _ => Iff.rfl) (fun r hr g hN i hi => ?_) nR (Nat.le_refl _) m
      obtain ⟨hk, p1, p2, p3, p4, p5⟩ := pc_cell (hG.2 r hr) hc g hi
      have hl := pc_less (hG.2 r hr) hc g hN hi
      unfold pcV
      rw [ih u (by omega) _ _ _ _ p5 (by omega), ih v (by omega) _ _ _ _ p5 (by omega)]
    rw [this]
theorem VW_eq (hG : okG nR R) (hc : okCell e x y w h) (n : Nat) : VW e R nR x y w h n = wS (leadF R w h nR) (baseF e (VW e R nR) R x y w h nR) n := by
  obtain ⟨h1, h2, -, -, -⟩ := id hc
  obtain ⟨v, hv⟩ : ∃ v, w + h = v + 1 := ⟨w + h - 1, by omega⟩
  have e1 : VW e R nR x y w h n = VWf e R nR (v + 1) x y w h n := by rw [← hv]; rfl
  rw [e1]
  show wS (leadF R w h nR) (baseF e (VWf e R nR v) R x y w h nR) n = _
  have : baseF e (VWf e R nR v) R x y w h nR = baseF e (VW e R nR) R x y w h nR := by
    funext m
    refine baseF_congr (nR := nR) (fun _ => Iff.rfl) (fun r hr g hN i hi => ?_) nR (Nat.le_refl _) m
    obtain ⟨hk, p1, p2, p3, p4, p5⟩ := pc_cell (hG.2 r hr) hc g hi
    have hl := pc_less (hG.2 r hr) hc g hN hi
    unfold pcV
    rw [VWf_fuel hG v _ _ _ _ p5 (by omega)]
  rw [this]
theorem leadF_ok (hG : okG nR R) : ∀ n k, 0 ≤ leadF R w h nR n k ∧ leadF R w h nR n k ≤ 40 := fun n k => by
  have h1 := leadF_b (R := R) (w := w) (h := h) nR n k
  have h2 := hG.1
  omega
theorem VW_ok (hG : okG nR R) : ∀ t x y w h, okCell e x y w h → w + h ≤ t → ∀ n, n < 8 → wOK (VW e R nR x y w h n) := by
  intro t
  induction t with
  | zero => intro x y w h hc ht; obtain ⟨h1, h2, -, -, -⟩ := hc; omega
  | succ t ih =>
    intro x y w h hc ht n hn
    rw [VW_eq hG hc]
    refine wS_ok (fun m _ => baseF_ok (nR := nR) (fun r hr g hN i hi => ?_) nR (Nat.le_refl _) m) (fun n k _ _ => Or.inr ⟨(leadF_ok hG n k).1, by have := (leadF_ok (w := w) (h := h) hG n k).2; omega⟩) hn
    obtain ⟨hk, p1, p2, p3, p4, p5⟩ := pc_cell (hG.2 r hr) hc g hi
    have hl := pc_less (hG.2 r hr) hc g hN hi
    exact ih _ _ _ _ p5 (by omega) _ (pcNm_8 (hG.2 r hr) hk hi)
theorem VW_okC (hG : okG nR R) (hc : okCell e x y w h) (hn : n < 8) : wOK (VW e R nR x y w h n) := VW_ok hG _ x y w h hc (Nat.le_refl _) n hn
theorem pcV_ok (hG : okG nR R) (hc : okCell e x y w h) {r : Nat} (hr : r < nR) (g : holdsF (R r) w h) {i : Nat} (hi : i < pcN (R r) w h) : wOK (pcV (VW e R nR) (R r) x y w h i) := by
  obtain ⟨hk, p1, p2, p3, p4, p5⟩ := pc_cell (hG.2 r hr) hc g hi
  exact VW_okC hG p5 (pcNm_8 (hG.2 r hr) hk hi)
theorem baseV_ok (hG : okG nR R) (hc : okCell e x y w h) (n : Nat) : wOK (baseF e (VW e R nR) R x y w h nR n) := baseF_ok (nR := nR) (fun _ hr g _ _ hi => pcV_ok hG hc hr g hi) nR (Nat.le_refl _) n
/-- pieces' sizes don't ask where the cell lies -/
theorem pcV_xy {d : RD} {i : Nat} (hV : ∀ x y w h n, V x y w h n = V 0 0 w h n) : pcV V d x y w h i = pcV V d x' y' w h i := by
  unfold pcV
  rw [hV, hV (Int.toNat (pcX d x' w h i))]
theorem VWf_xy (he : e.1 = false) : ∀ t x y w h n, VWf e R nR t x y w h n = VWf e R nR t 0 0 w h n := by
  intro t
  induction t with
  | zero => intro x y w h n; rfl
  | succ t ih =>
    intro x y w h n
    show wS (leadF R w h nR) (baseF e (VWf e R nR t) R x y w h nR) n = wS (leadF R w h nR) (baseF e (VWf e R nR t) R 0 0 w h nR) n
    have : baseF e (VWf e R nR t) R x y w h nR = baseF e (VWf e R nR t) R 0 0 w h nR := by
      funext m
      exact baseF_congr (nR := nR) (fun l => ⟨fun _ z => by rw [he] at z; exact absurd z (by decide), fun _ z => by rw [he] at z; exact absurd z (by decide)⟩) (fun r hr g hN i hi => pcV_xy ih) nR (Nat.le_refl _) m
    rw [this]
theorem VW_xy (he : e.1 = false) : VW e R nR x y w h n = VW e R nR 0 0 w h n := VWf_xy he _ _ _ _ _ _
end SW
