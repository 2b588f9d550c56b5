/-! what was drawn: the class's draw, at, step, drawn, fault -/
abbrev FR : Type := Int × Int × Nat × (Nat → Int) × Int × (Nat → Int)
abbrev fW (F : FR) : Int := F.1
abbrev fH (F : FR) : Int := F.2.1
abbrev fC (F : FR) : Nat := F.2.2.1
abbrev fS (F : FR) : Nat → Int := F.2.2.2.1
abbrev fZ (F : FR) : Int := F.2.2.2.2.1
abbrev fV (F : FR) : Nat → Int := F.2.2.2.2.2
def inF (F : FR) (p : Nat) : Prop := ((p % 20 : Nat) : Int) < fW F ∧ ((p / 20 : Nat) : Int) < fH F
def okF (F : FR) : Prop := ((fW F = 0 ∧ fH F = 0 ∧ fC F = 0) ∨ isSc (fW F) (fH F)) ∧ fC F ≤ 8000 ∧ ∀ p, inF F p → 0 ≤ fV F p ∧ fV F p ≤ 25
def IXf (μ : Nat → Nat → Int) (a : Nat) (F : FR) : Prop := (μ a 2 = fW F ∧ μ a 3 = fH F ∧ μ a 4 = fC F ∧ μ a 5 = fZ F) ∧ (∀ j, j < fC F → μ (a + 2) j = fS F j) ∧ ∀ p, p < 400 → inF F p → μ (a + 1) p = fV F p
def IMf (μ : Nat → Nat → Int) (F : FR) : Prop := (μ 265 18 = fW F ∧ μ 265 19 = fH F ∧ μ 265 20 = fC F ∧ (fW F ≠ 0 → μ 265 22 = fZ F)) ∧ (∀ j, j < fC F → μ 281 j = fS F j) ∧ ∀ p, p < 400 → inF F p → μ 282 p = fV F p
def topP (x1 x2 x3 : Int) : Nat → WP := fun _ => (0, 0, 0, x2, x3, x1, 0)
noncomputable def drawO (n : Nat) (R : GR) (x1 x2 x3 : Int) : DO := drawF n R 8001 1 (topP x1 x2 x3) 0 (fun _ => 0) 0 (fun _ => none)
noncomputable def frontO (W H : Int) (o : DO) : FR := (W, H, o.2.2.1, o.2.2.2.1, o.2.2.2.2.1, fun p => (o.2.2.2.2.2 p).getD 0)
theorem drawO_inv {x1 x2 x3 : Int} (h : isSc x2 x3) : dInv x2 x3 1 (topP x1 x2 x3) 0 (fun _ => 0) 0 (fun _ => none) := by
  have hs := h
  unfold isSc at hs
  have ha : x2 * x3 ≤ 20 * 20 := Int.mul_le_mul hs.1.2 hs.2.2 (by omega) (by decide)
  have e1 : sumN 1 (fun k => ar (topP x1 x2 x3 k)) = x2 * x3 := by show 0 + x2 * x3 = _; omega
  have e2 : sumN 1 (fun k => ar (topP x1 x2 x3 k) * (20 - wd (topP x1 x2 x3 k))) = x2 * x3 * 20 := by show 0 + x2 * x3 * (20 - 0) = _; omega
  refine ⟨fun k _ => ⟨⟨⟨?_, ?_⟩, ⟨?_, ?_, ?_⟩, ?_, ?_, ?_⟩, ?_, ?_⟩, ?_, ?_, fun j hj => absurd hj (Nat.not_lt_zero j), by omega, fun p hp1 hp2 => Or.inr ⟨0, by omega, ⟨?_, ?_⟩, ?_, ?_⟩⟩
  · exact Int.le_refl 0
  · show (0 : Int) ≤ 7; decide
  · exact Int.le_refl 0
  · exact hs.1.1
  · show 0 + x2 ≤ x2; omega
  · exact Int.le_refl 0
  · exact hs.2.1
  · show 0 + x3 ≤ x3; omega
  · exact Int.le_refl 0
  · show (0 : Int) ≤ 20; decide
  · rw [e2]; omega
  · rw [e1]; omega
  · show (0 : Int) ≤ _; omega
  · show _ < 0 + x2; omega
  · show (0 : Int) ≤ _; omega
  · show _ < 0 + x3; omega
theorem drawF_cv {n : Nat} {R : GR} (hG : okG n R) : ∀ (fuel L c : Nat) (P : Nat → WP) (st : Nat → Int) (z : Int) (cv : Nat → Option Int), (∀ p v, cv p = some v → 0 ≤ v ∧ v ≤ 25) → ∀ p v, (drawF n R fuel L P c st z cv).2.2.2.2.2 p = some v → 0 ≤ v ∧ v ≤ 25 := by
  intro fuel
  induction fuel with
  | zero => intro L c P st z cv h; exact h
  | succ fuel ih =>
    intro L c P st z cv h
    cases L with
    | zero => rw [drawF_0]; exact h
    | succ L =>
      by_cases hd : 20 ≤ wd (P L)
      · rw [drawF_2 fuel hd]; exact h
      · by_cases hp : pickT n R (P L) = -9
        · rw [drawF_1 fuel hd hp]; exact h
        · obtain ⟨r, er, hr, -, hh⟩ := pickT_is hp
          by_cases hk : rk (R r) = 0
          · rw [drawF_f fuel hd er hk]
            refine ih _ _ _ _ _ _ fun p v hv => ?_
            unfold paintC at hv
            by_cases hin : inR (Int.toNat (wx (P L))) (Int.toNat (wy (P L))) (Int.toNat (ww (P L))) (Int.toNat (wh (P L))) p
            · rw [cI_t hin] at hv
              have := ((hG.2 r hr).2.2.2.2.2.1 hk).2
              have e := Option.some.inj hv
              omega
            · rw [cI_f hin] at hv; exact h p v hv
          · rw [drawF_s fuel hd er hk]
            exact ih _ _ _ _ _ _ h
section DO
variable {n : Nat} {R : GR} {x1 x2 x3 : Int}
theorem drawO_ok (hG : okG n R) (h : isSc x2 x3) : okD x2 x3 (drawO n R x1 x2 x3) := drawF_ok (by unfold isSc at h; omega) (by unfold isSc at h; omega) hG 8001 1 0 _ _ _ _ rfl (drawO_inv h)
theorem drawO_cv (hG : okG n R) : ∀ p v, (drawO n R x1 x2 x3).2.2.2.2.2 p = some v → 0 ≤ v ∧ v ≤ 25 := drawF_cv hG 8001 1 0 _ _ _ _ fun p v h => by cases h
theorem frontO_at (hG : okG n R) (h : isSc x2 x3) (h0 : (drawO n R x1 x2 x3).1 = 0) {p : Nat} (hp : inF (frontO x2 x3 (drawO n R x1 x2 x3)) p) : (drawO n R x1 x2 x3).2.2.2.2.2 p = some (fV (frontO x2 x3 (drawO n R x1 x2 x3)) p) := by
  have := ((drawO_ok (x1 := x1) hG h).2 h0).2.2.2 p hp.1 hp.2
  show _ = some (((drawO n R x1 x2 x3).2.2.2.2.2 p).getD 0)
  cases e : (drawO n R x1 x2 x3).2.2.2.2.2 p with
  | none => exact absurd e this
  | some v => rfl
theorem frontO_ok (hG : okG n R) (h : isSc x2 x3) (h0 : (drawO n R x1 x2 x3).1 = 0) : okF (frontO x2 x3 (drawO n R x1 x2 x3)) := by
  obtain ⟨h1, h2, h3, h4⟩ := (drawO_ok (x1 := x1) hG h).2 h0
  exact ⟨Or.inr h, h1, fun p hp => drawO_cv hG p _ (frontO_at hG h h0 hp)⟩
end DO
section XF
variable {sh : List (Nat × Nat)} {ν : Nat → Nat → Option Nat} {μ : Nat → Nat → Int} {f s : Nat} {Q : xQ} {n : Nat} {R : GR} {F : FR}
theorem wf_swap (hW : WF sh ν f s) : WF sh (upr (upr ν 0 6 (some s)) 0 7 (some f)) s f := by
  obtain ⟨h1, h2, h3, h4, h5, h6⟩ := hW
  have key : ∀ e ∈ NUT, ¬ (e.1 = 0 ∧ e.2.1 = 7) ∧ ¬ (e.1 = 0 ∧ e.2.1 = 6) := by decide
  refine ⟨h1, fun e he => ?_, fun r hr => ?_, ?_, ?_, by omega⟩
  · obtain ⟨k1, k2⟩ := key e he
    unfold upr
    rw [if_neg k1, if_neg k2]
    exact h2 e he
  · obtain ⟨g1, g2, g3, g4, g5⟩ := h3 r hr
    refine ⟨?_, ?_, ?_, ?_, ?_⟩
    · rw [upr_a (by omega), upr_a (by omega)]; exact g1
    · rw [upr_a (by omega), upr_a (by omega)]; exact g2
    · rw [upr_a (by omega), upr_a (by omega)]; exact g3
    · rw [upr_a (by omega), upr_a (by omega)]; exact g4
    · rw [upr_a (by omega), upr_a (by omega)]; exact g5
  · rw [upr_k (by omega), upr_s]
  · rw [upr_s]
theorem c_X9_draw (hW : WF sh ν f s) (hG : okG n R) (HX : IXg μ n R) {x1 x2 x3 : Int}
    (k0 : ¬ isSc x2 x3 → Q (some (vI (-2))) sh ν μ)
    (k1 : isSc x2 x3 → (drawO n R x1 x2 x3).1 = 0 → ∀ (ν' : Nat → Nat → Option Nat) (μ' : Nat → Nat → Int), WF sh ν' s f → IXf μ' s (frontO x2 x3 (drawO n R x1 x2 x3)) → μ' 0 8 = 0 → (∀ b, b ≠ 0 → ¬ (207 ≤ b ∧ b ≤ 210) → ¬ (249 ≤ b ∧ b ≤ 258) → ¬ (s ≤ b ∧ b ≤ s + 2) → μ' b = μ b) → Q (some (vI (drawO n R x1 x2 x3).2.2.1)) sh ν' μ')
    (k2 : isSc x2 x3 → (drawO n R x1 x2 x3).1 ≠ 0 → ∀ μ' : Nat → Nat → Int, μ' 0 8 = (drawO n R x1 x2 x3).2.1 → (∀ b, b ≠ 0 → ¬ (207 ≤ b ∧ b ≤ 210) → ¬ (249 ≤ b ∧ b ≤ 258) → ¬ (s ≤ b ∧ b ≤ s + 2) → μ' b = μ b) → Q (some (vI (-100 - (drawO n R x1 x2 x3).1))) sh ν μ') : X mX9_draw 0 [(0, vR 0), (1, vI x1), (2, vI x2), (3, vI x3)] [] sh ν μ 0 0 Q := by
  refine g_X9_draw_0 hW ⟨fun h => ?_, fun h => k0 h⟩
  have hsc : isSc x2 x3 := h
  have hs := wf_s hW
  have ha : 259 ≤ s ∧ s ≤ 262 := by rcases hs with rfl | rfl <;> omega
  refine g_X8_grow_0 hW hs ?_
  refine g_X8_begin_0 hW ?_
  have hb : ∀ b, b ≠ s → b ≠ 249 → up (up (up (up (up μ s 2 x2) s 3 x3) s 4 0) s 5 0) 249 4 0 b = μ b := fun b b0 b1 => by simp (disch := omega) only [up_o']
  have hD : drX (up (up (up (up (up μ s 2 x2) s 3 x3) s 4 0) s 5 0) 249 4 0) s x2 x3 0 (fun _ => 0) 0 (fun _ => none) := by
    refine ⟨⟨?_, ?_, ?_, ?_⟩, fun j hj => absurd hj (Nat.not_lt_zero j), fun p _ v hv => by cases hv⟩
    · simp (disch := omega) only [up_s, up_a', up_k']
    · simp (disch := omega) only [up_s, up_a', up_k']
    · simp (disch := omega) only [up_s, up_a', up_k']; rfl
    · simp (disch := omega) only [up_s, up_a', up_k']
  have hP : pileX (up (up (up (up (up μ s 2 x2) s 3 x3) s 4 0) s 5 0) 249 4 0) 0 (topP x1 x2 x3) := ⟨by simp (disch := omega) only [up_s]; rfl, fun k hk => absurd hk (Nat.not_lt_zero k)⟩
  generalize up (up (up (up (up μ s 2 x2) s 3 x3) s 4 0) s 5 0) 249 4 0 = m0 at hb hD hP
  refine c_X8_push hW (T := (0, 0, 0, x2, x3, x1, 0)) (P' := topP x1 x2 x3) (by omega) hP (fun k hk => rfl) rfl fun m1 p1 p2 p3 => ?_
  refine g_X8_begin_16 hW ?_
  refine g_X8_grow_15 hW hs ?_
  have hF : frG s μ m1 := fun b b1 b2 b3 => by rw [p3 b (by omega) (by omega)]; exact hb b (by omega) (by omega)
  refine c_X8_grow18 hW hs hG HX (by omega) (by omega) 8001 1 0 (topP x1 x2 x3) (fun _ => 0) 0 (fun _ => none) m1 rfl (drawO_inv hsc) p1 (drX_congr (fun b b0 b1 => p3 b (by omega) (by omega)) hD) hF fun m2 r1 r2 r3 => ?_
  have eo : drawF n R 8001 1 (topP x1 x2 x3) 0 (fun _ => 0) 0 (fun _ => none) = drawO n R x1 x2 x3 := rfl
  rw [eo] at r1 r2 ⊢
  have ho := (drawO_ok (x1 := x1) hG hsc).1
  have hfr : ∀ v, ∀ b, b ≠ 0 → ¬ (207 ≤ b ∧ b ≤ 210) → ¬ (249 ≤ b ∧ b ≤ 258) → ¬ (s ≤ b ∧ b ≤ s + 2) → up m2 0 8 v b = μ b := fun v b b0 b1 b2 b3 => by rw [up_o' b0]; exact r3 b b1 b2 b3
  refine g_X9_draw_25 hW ⟨fun q => ?_, fun q => ?_⟩
  · have hD2 := r1 q
    have e4 : up m2 0 8 0 s 4 = (drawO n R x1 x2 x3).2.2.1 := by rw [up_a' (by omega)]; exact hD2.1.2.2.1
    rw [e4]
    refine k1 hsc q _ _ (wf_swap hW) ⟨?_, fun j hj => ?_, fun p hp hin => ?_⟩ (up_s ..) (hfr 0)
    · rw [up_o' (show s ≠ 0 by omega)]; exact hD2.1
    · rw [up_o' (show s + 2 ≠ 0 by omega)]; exact hD2.2.1 j hj
    · rw [up_o' (show s + 1 ≠ 0 by omega)]
      exact hD2.2.2 p hp _ (frontO_at hG hsc q hin)
  · have hk : m2 249 10 = (drawO n R x1 x2 x3).2.1 := r2 q
    rw [w32_id (by omega) (by omega), hk]
    exact k2 hsc q _ (up_s ..) (hfr _)
noncomputable def ansAt (F : FR) (x y : Int) : Int := cI ((0 ≤ x ∧ x < fW F) ∧ 0 ≤ y ∧ y < fH F) (fV F (Int.toNat (x + 20 * y))) (-9)
noncomputable def ansStep (F : FR) (i : Int) : Int := cI (0 ≤ i ∧ i < fC F) (fS F (Int.toNat i)) (-9)
noncomputable def ansDrawn (F : FR) : Int := cI (fW F = 0) (-9) (fZ F)
theorem okF_20 (h : okF F) : 0 ≤ fW F ∧ fW F ≤ 20 ∧ 0 ≤ fH F ∧ fH F ≤ 20 := by
  rcases h.1 with ⟨h1, h2, -⟩ | h1
  · omega
  · unfold isSc at h1; omega
theorem at_in (h : okF F) {x y : Int} (hx : 0 ≤ x ∧ x < fW F) (hy : 0 ≤ y ∧ y < fH F) : Int.toNat (x + 20 * y) < 400 ∧ inF F (Int.toNat (x + 20 * y)) ∧ 0 ≤ x + 20 * y ∧ x + 20 * y < 400 := by
  have := okF_20 h
  exact ⟨by omega, ⟨by omega, by omega⟩, by omega, by omega⟩
theorem c_X2_letterOf (hW : WF sh ν f s) (hF : okF F) (HF : IXf μ f F) {x y : Int} (hx : 0 ≤ x ∧ x < fW F) (hy : 0 ≤ y ∧ y < fH F) (k : Q (some (vI (fV F (Int.toNat (x + 20 * y))))) sh ν μ) : X mX2_letterOf 0 [(0, vR f), (1, vI x), (2, vI y)] [] sh ν μ 0 0 Q := by
  have hb := okF_20 hF
  obtain ⟨i1, i2, i3, i4⟩ := at_in hF hx hy
  have e : w32 (x + w32 (20 * y)) = x + 20 * y := by rw [w32_id (x := 20 * y) (by omega) (by omega), w32_id (by omega) (by omega)]
  refine g_X2_letterOf_0 hW (wf_f hW) ?_
  rw [e, HF.2.2 _ i1 i2]
  exact ⟨fun q => absurd q (by omega), fun _ => ⟨fun q => absurd q (by omega), fun _ => ⟨⟨i3, i4⟩, k⟩⟩⟩
theorem c_X9_at (hW : WF sh ν f s) (hF : okF F) (HF : IXf μ f F) {x y : Int} (k : Q (some (vI (ansAt F x y))) sh ν μ) : X mX9_at 0 [(0, vR 0), (1, vI x), (2, vI y)] [] sh ν μ 0 0 Q := by
  unfold ansAt at k
  refine g_X9_at_0 hW ?_
  rw [HF.1.1, HF.1.2.1]
  refine ⟨fun q => ?_, fun q1 => ⟨fun q => ?_, fun q2 => ⟨fun q => ?_, fun q3 => ⟨fun q4 => ?_, fun q => ?_⟩⟩⟩⟩
  · rw [cI_f (fun z => by omega)] at k; exact k
  · rw [cI_f (fun z => by omega)] at k; exact k
  · rw [cI_f (fun z => by omega)] at k; exact k
  · rw [cI_t ⟨⟨q1, q2⟩, q3, q4⟩] at k
    exact c_X2_letterOf hW hF HF ⟨q1, q2⟩ ⟨q3, q4⟩ (g_X9_at_42 hW k)
  · rw [cI_f (fun z => by omega)] at k; exact k
theorem c_X9_step (hW : WF sh ν f s) (hF : okF F) (HF : IXf μ f F) {i : Int} (k : Q (some (vI (ansStep F i))) sh ν μ) : X mX9_step 0 [(0, vR 0), (1, vI i)] [] sh ν μ 0 0 Q := by
  unfold ansStep at k
  have h8 := hF.2.1
  refine g_X9_step_0 hW ?_
  rw [HF.1.2.2.1]
  refine ⟨fun q => ?_, fun q1 => ⟨fun q2 => ⟨by omega, ?_⟩, fun q => ?_⟩⟩
  · rw [cI_f (fun z => by omega)] at k; exact k
  · rw [cI_t ⟨q1, q2⟩] at k
    rw [HF.2.1 _ (by omega)]; exact k
  · rw [cI_f (fun z => by omega)] at k; exact k
theorem c_X9_drawn (hW : WF sh ν f s) (HF : IXf μ f F) (k : Q (some (vI (ansDrawn F))) sh ν μ) : X mX9_drawn 0 [(0, vR 0)] [] sh ν μ 0 0 Q := by
  unfold ansDrawn at k
  refine g_X9_drawn_0 hW ?_
  rw [HF.1.1, HF.1.2.2.2]
  refine ⟨fun q => ?_, fun q => ?_⟩
  · rw [cI_f q] at k; exact k
  · rw [cI_t q] at k; exact k
end XF
