/-! the reference draws -/
def drM (μ : Nat → Nat → Int) (c : Nat) (st : Nat → Int) (cv : Nat → Option Int) : Prop := (∀ j, j < c → μ 284 j = st j) ∧ ∀ p, p < 400 → ∀ v, cv p = some v → μ 283 p = v
def frDM (μ μ' : Nat → Nat → Int) : Prop := (∀ b, b ≠ 265 → ¬ (278 ≤ b ∧ b ≤ 280) → ¬ (283 ≤ b ∧ b ≤ 291) → μ' b = μ b) ∧ ∀ j, j ≠ 14 → j ≠ 27 → μ' 265 j = μ 265 j
section MD
variable {sh : List (Nat × Nat)} {ν : Nat → Nat → Option Nat} {μ0 : Nat → Nat → Int} {f s : Nat} {Q : xQ} {n : Nat} {R : GR}
theorem frDM_K {μ μ' : Nat → Nat → Int} (h : frDM μ0 μ) (h2 : frK μ μ') : frDM μ0 μ' := ⟨fun b b0 b1 b2 => (h2.1 b b0 (by omega) (by omega) (by omega)).trans (h.1 b b0 b1 b2), fun j j0 j1 => (h2.2 j j0).trans (h.2 j j0 j1)⟩
theorem c_X10_draw56 (hW : WF sh ν f s) (hG : okG n R) (HM : IMg μ0 n R) {W H : Int} (hW2 : W ≤ 20) (hH2 : H ≤ 20) : ∀ (fuel L c : Nat) (P : Nat → WP) (st : Nat → Int) (z : Int) (cv : Nat → Option Int) (μ : Nat → Nat → Int), fuel + c = 8001 → dInv W H L P c st z cv → pileM μ L P → drM μ c st cv → frDM μ0 μ →
    ((drawF n R fuel L P c st z cv).1 = 0 → ∀ μ' : Nat → Nat → Int, drM μ' (drawF n R fuel L P c st z cv).2.2.1 (drawF n R fuel L P c st z cv).2.2.2.1 (drawF n R fuel L P c st z cv).2.2.2.2.2 → frDM μ0 μ' → X mX10_draw 325 [(0, vR 265), (4, vI ((drawF n R fuel L P c st z cv).2.2.1 : Nat)), (6, vI 0)] [] sh ν (up (up (up (up (up μ' 265 26 0) 265 20 ((drawF n R fuel L P c st z cv).2.2.1 : Nat)) 265 22 (drawF n R fuel L P c st z cv).2.2.2.2.1) 265 18 W) 265 19 H) 0 0 Q) →
    ((drawF n R fuel L P c st z cv).1 ≠ 0 → ∀ μ' : Nat → Nat → Int, frDM μ0 μ' → Q (some (vI (-100 - (drawF n R fuel L P c st z cv).1))) sh ν (up μ' 265 26 (drawF n R fuel L P c st z cv).2.1)) →
    X mX10_draw 56 [(0, vR 265), (2, vI W), (3, vI H), (4, vI (c : Nat)), (5, vI z)] [] sh ν μ 0 0 Q := by
  have h40 := hG.1
  intro fuel
  induction fuel with
  | zero =>
    intro L c P st z cv μ hf hI
    have := dInv_pot hI
    have := hI.2.1
    omega
  | succ fuel ih =>
    intro L c P st z cv μ hf hI hX hD hF k1 k2
    cases L with
    | zero =>
      rw [drawF_0] at k1
      refine g_X10_draw_56 hW ?_
      rw [hX.1]
      exact ⟨fun _ => k1 rfl μ hD hF, fun q => absurd q (by omega)⟩
    | succ L =>
      have hL := dInv_L hI
      obtain ⟨hT, hd0, hd20⟩ := hI.1 L (by omega)
      have hs := okW_sc hW2 hH2 hT
      obtain ⟨⟨e5, e6, e7⟩, e8, e9, e10, e11⟩ := hX.2 L (by omega)
      have ew : w32 (((L + 1 : Nat) : Int) - 1) = (L : Nat) := by rw [w32_id (by omega) (by omega)]; omega
      have hF1 : frDM μ0 (up μ 265 27 (L : Nat)) := ⟨fun b b0 b1 b2 => by rw [up_o' b0]; exact hF.1 b b0 b1 b2, fun j j0 j1 => by rw [up_k' j1]; exact hF.2 j j0 j1⟩
      have hX1 : pileM (up μ 265 27 (L : Nat)) L P := ⟨up_s .., fun j hj => by simp (disch := omega) only [up_a']; exact hX.2 j (by omega)⟩
      have hD1 : drM (up μ 265 27 (L : Nat)) c st cv := by unfold drM; rw [up_o' (show 284 ≠ 265 by omega), up_o' (show 283 ≠ 265 by omega)]; exact hD
      have inIM : ∀ {m : Nat → Nat → Int}, frDM μ0 m → IMg m n R := fun h => IMg_congr (h.2 0 (by omega) (by omega)) (fun b b0 b1 => h.1 b (by omega) (by omega) (by omega)) HM
      refine g_X10_draw_56 hW ?_
      rw [hX.1, ew, Int.toNat_natCast, e5, e6, e7, e10, e11]
      refine ⟨fun q => absurd q (by omega), fun _ => ⟨by omega, by omega, by omega, by omega, fun hd => ⟨by omega, ?_⟩, fun hd => ?_⟩⟩
      · refine c_X10_picked hW hG (inIM hF1) hs fun m2 r1 => ?_
        have hF2 := frDM_K hF1 r1
        have HM2 := inIM hF2
        have epk : pickF n R (wn (P L)) (ww (P L)) (wh (P L)) (wk (P L)) = pickT n R (P L) := rfl
        have hX2 : pileM m2 L P := pileM_fr (r1.2 27 (by omega)) (fun b b0 b1 => r1.1 b (by omega) (by omega) (by omega) (by omega)) hX1
        refine g_X10_draw_148 hW ?_
        rw [epk]
        by_cases hp : pickT n R (P L) = -9
        · rw [drawF_1 fuel (by omega) hp] at k2
          refine ⟨fun q => absurd hp q, fun _ => ⟨fun _ => ?_, fun q => absurd q (by omega)⟩⟩
          exact k2 (fun q => absurd (show (1 : Int) = 0 from q) (by decide)) m2 hF2
        · obtain ⟨r, er, hr, -, hh⟩ := pickT_is hp
          have ho := hG.2 r hr
          have hc := dInv_c hI (by omega)
          have bc := ho.2.2.1
          have bz := hI.2.2.2.2.1
          rw [er]
          refine ⟨fun _ => ?_, fun q => absurd q (by omega)⟩
          obtain ⟨⟨a1, a2, a3, a4, a5⟩, -, -⟩ := HM2.2 r hr
          rw [Int.toNat_natCast, Int.toNat_natCast, a2, a3, a4, hX2.1, Int.toNat_natCast, wi1 (by omega), w32_id (x := z + rc (R r)) (by omega) (by omega)]
          have hb3 : ∀ b, b ≠ 284 → up m2 284 c (r : Nat) b = m2 b := fun b b0 => up_o' b0
          have hF3 : frDM μ0 (up m2 284 c (r : Nat)) := ⟨fun b b0 b1 b2 => by rw [hb3 b (by omega)]; exact hF2.1 b b0 b1 b2, fun j j0 j1 => by rw [hb3 265 (by omega)]; exact hF2.2 j j0 j1⟩
          have hX3 : pileM (up m2 284 c (r : Nat)) L P := pileM_fr (by rw [hb3 265 (by omega)]) (fun b b0 b1 => hb3 b (by omega)) hX2
          have hD3 : drM (up m2 284 c (r : Nat)) (c + 1) (snoc st c (r : Nat)) cv := by
            refine ⟨fun j hj => ?_, fun p hp v hv => ?_⟩
            · by_cases e : j = c
              · subst e; rw [snoc_n, up_s]
              · rw [snoc_l (by omega), up_k' e, r1.1 284 (by omega) (by omega) (by omega) (by omega)]; exact hD1.1 j (by omega)
            · rw [hb3 283 (by omega), r1.1 283 (by omega) (by omega) (by omega) (by omega)]; exact hD1.2 p hp v hv
          obtain ⟨-, -, -, x4, x5, -, -⟩ := show (m2 285 = m2 285 ∧ True ∧ True ∧ m2 288 = (up μ 265 27 (L : Nat)) 288 ∧ m2 289 = (up μ 265 27 (L : Nat)) 289 ∧ True ∧ True) from ⟨rfl, trivial, trivial, r1.1 288 (by omega) (by omega) (by omega) (by omega), r1.1 289 (by omega) (by omega) (by omega) (by omega), trivial, trivial⟩
          have f8 : m2 288 L = wx (P L) := by rw [x4, up_a' (by omega)]; exact e8
          have f9 : m2 289 L = wy (P L) := by rw [x5, up_a' (by omega)]; exact e9
          generalize hm3 : up m2 284 c (r : Nat) = m3 at hb3 hF3 hX3 hD3
          refine ⟨by omega, by omega, by omega, fun hk => ?_, fun hk => ⟨by omega, by omega, by omega, ?_⟩⟩
          · rw [drawF_s fuel (by omega) er hk] at k1 k2
            have hI' := dInv_spread hW2 hH2 hI (by omega) (by omega) ho hh hk
            have hL' := dInv_L hI'
            have HM3 := inIM hF3
            refine c_X10_lay hW (by omega) (HM3.2 r hr) ho hs.1 hs.2 (fun _ m4 t1 t2 => ?_) (fun g => absurd hh g)
            have hF4 := frDM_K hF3 t2
            have hX4 : pileM m4 L P := pileM_fr (t2.2 27 (by omega)) (fun b b0 b1 => t2.1 b (by omega) (by omega) (by omega) (by omega)) hX3
            refine g_X10_draw_258 hW ?_
            rw [hX4.1, Int.toNat_natCast, show m4 288 L = wx (P L) by rw [t2.1 288 (by omega) (by omega) (by omega) (by omega), hb3 288 (by omega)]; exact f8, show m4 289 L = wy (P L) by rw [t2.1 289 (by omega) (by omega) (by omega) (by omega), hb3 289 (by omega)]; exact f9]
            refine ⟨by omega, by omega, ?_⟩
            refine c_X10_putPieces hW (by omega) ((inIM hF4).2 r hr) ho hT hW2 hH2 (by omega) t1 hX4 hh (by omega) fun m5 u1 u2 => ?_
            refine g_X10_draw_292 hW ?_
            exact ih _ _ _ _ _ _ m5 (by omega) hI' u1 ⟨fun j hj => by rw [u2.1 284 (by omega) (by omega), t2.1 284 (by omega) (by omega) (by omega) (by omega)]; exact hD3.1 j hj, fun p hp v hv => by rw [u2.1 283 (by omega) (by omega), t2.1 283 (by omega) (by omega) (by omega) (by omega)]; exact hD3.2 p hp v hv⟩ ⟨fun b b0 b1 b2 => by rw [u2.1 b b0 (by omega)]; exact hF4.1 b b0 b1 b2, fun j j0 j1 => by rw [u2.2 j j1]; exact hF4.2 j j0 j1⟩ k1 k2
          · rw [drawF_f fuel (by omega) er hk] at k1 k2
            have hI' := dInv_fill hI (by omega) (by omega) ho (rl (R r))
            rw [f8, f9]
            obtain ⟨-, ⟨u1, u2, u3⟩, u4, u5, u6⟩ := hT
            have ex : wx (P L) = (Int.toNat (wx (P L)) : Nat) := by omega
            have ey : wy (P L) = (Int.toNat (wy (P L)) : Nat) := by omega
            have ew : ww (P L) = (Int.toNat (ww (P L)) : Nat) := by omega
            have eh : wh (P L) = (Int.toNat (wh (P L)) : Nat) := by omega
            rw [ex, ey, ew, eh]
            refine c_X10_fillDraft hW (by omega) (by omega) fun m4 t1 t2 => ?_
            refine g_X10_draw_245 hW ?_
            refine g_X10_draw_292 hW ?_
            refine ih _ _ _ _ _ _ m4 (by omega) hI' (pileM_fr (by rw [t2 265 (by omega)]) (fun b b0 b1 => t2 b (by omega)) hX3) ⟨fun j hj => by rw [t2 284 (by omega)]; exact hD3.1 j hj, fun p hp v hv => ?_⟩ ⟨fun b b0 b1 b2 => by rw [t2 b (by omega)]; exact hF3.1 b b0 b1 b2, fun j j0 j1 => by rw [t2 265 (by omega)]; exact hF3.2 j j0 j1⟩ k1 k2
            obtain ⟨v1, v2⟩ := t1 p hp
            unfold paintC at hv
            by_cases hin : inR (Int.toNat (wx (P L))) (Int.toNat (wy (P L))) (Int.toNat (ww (P L))) (Int.toNat (wh (P L))) p
            · rw [cI_t hin] at hv
              rw [v1 hin]; exact Option.some.inj hv
            · rw [cI_f hin] at hv
              rw [v2 hin]; exact hD3.2 p hp v hv
      · rw [drawF_2 fuel (by omega)] at k2
        refine g_X10_draw_148 hW ⟨fun q => absurd rfl q, fun _ => ⟨fun q => absurd q (by omega), fun _ => ?_⟩⟩
        exact k2 (fun q => absurd (show (2 : Int) = 0 from q) (by decide)) _ hF1
end MD
