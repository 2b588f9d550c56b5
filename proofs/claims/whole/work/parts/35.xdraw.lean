/-! the class draws -/
/-- a front of the class holds what was drawn so far -/
def drX (μ : Nat → Nat → Int) (a : Nat) (W H : Int) (c : Nat) (st : Nat → Int) (z : Int) (cv : Nat → Option Int) : Prop := (μ a 2 = W ∧ μ a 3 = H ∧ μ a 4 = c ∧ μ a 5 = z) ∧ (∀ j, j < c → μ (a + 2) j = st j) ∧ ∀ p, p < 400 → ∀ v, cv p = some v → μ (a + 1) p = v
def frG (a : Nat) (μ μ' : Nat → Nat → Int) : Prop := ∀ b, ¬ (207 ≤ b ∧ b ≤ 210) → ¬ (249 ≤ b ∧ b ≤ 258) → ¬ (a ≤ b ∧ b ≤ a + 2) → μ' b = μ b
section XD
variable {sh : List (Nat × Nat)} {ν : Nat → Nat → Option Nat} {μ0 : Nat → Nat → Int} {f s : Nat} {Q : xQ} {n : Nat} {R : GR}
theorem drX_congr {μ μ' : Nat → Nat → Int} {a : Nat} {W H : Int} {c : Nat} {st : Nat → Int} {z : Int} {cv : Nat → Option Int} (h : ∀ b, a ≤ b → b ≤ a + 2 → μ' b = μ b) (D : drX μ a W H c st z cv) : drX μ' a W H c st z cv := by
  unfold drX at D ⊢
  rw [h a (by omega) (by omega), h (a + 1) (by omega) (by omega), h (a + 2) (by omega) (by omega)]
  exact D
theorem c_X8_grow18 (hW : WF sh ν f s) {a : Nat} (hA : isFront a) (hG : okG n R) (HX : IXg μ0 n R) {W H : Int} (hW2 : W ≤ 20) (hH2 : H ≤ 20) : ∀ (fuel L c : Nat) (P : Nat → WP) (st : Nat → Int) (z : Int) (cv : Nat → Option Int) (μ : Nat → Nat → Int), fuel + c = 8001 → dInv W H L P c st z cv → pileX μ L P → drX μ a W H c st z cv → frG a μ0 μ →
    (∀ μ' : Nat → Nat → Int, ((drawF n R fuel L P c st z cv).1 = 0 → drX μ' a W H (drawF n R fuel L P c st z cv).2.2.1 (drawF n R fuel L P c st z cv).2.2.2.1 (drawF n R fuel L P c st z cv).2.2.2.2.1 (drawF n R fuel L P c st z cv).2.2.2.2.2) → ((drawF n R fuel L P c st z cv).1 ≠ 0 → μ' 249 10 = (drawF n R fuel L P c st z cv).2.1) → frG a μ0 μ' → Q (some (vI (drawF n R fuel L P c st z cv).1)) sh ν μ') →
    X mX8_grow 18 [(0, vR 249), (1, vR a), (5, vI (c : Nat))] [] sh ν μ 0 0 Q := by
  have ha : 259 ≤ a ∧ a ≤ 262 := by rcases hA with rfl | rfl <;> omega
  have h40 := hG.1
  intro fuel
  induction fuel with
  | zero =>
    intro L c P st z cv μ hf hI
    have := dInv_pot hI
    have := hI.2.1
    omega
  | succ fuel ih =>
    intro L c P st z cv μ hf hI hX hD hF k
    refine g_X8_grow_18 hW hA ⟨fun q => absurd q (by omega), fun _ => ?_⟩
    cases L with
    | zero =>
      rw [drawF_0] at k
      refine c_X8_next0 hW hX ?_
      exact g_X8_grow_30 hW hA ⟨fun _ => k μ (fun _ => hD) (fun q => absurd rfl q) hF, fun q => absurd rfl q⟩
    | succ L =>
      have hL := dInv_L hI
      refine c_X8_next1 hW (by omega) hX fun m1 p1 p2 p3 => ?_
      obtain ⟨hT, hd0, hd20⟩ := hI.1 L (by omega)
      have hs := okW_sc hW2 hH2 hT
      have hF1 : frG a μ0 m1 := fun b b1 b2 b3 => by rw [p3 b (by omega)]; exact hF b b1 b2 b3
      have p2' := p2
      obtain ⟨⟨q5, q6, q7⟩, q8, q9, q10, q11⟩ := p2
      refine g_X8_grow_30 hW hA ⟨fun q => absurd q (by decide), fun _ => ?_⟩
      rw [q11]
      refine ⟨fun hd => ?_, fun hd => ?_⟩
      · have HX1 : IXg m1 n R := IXg_congr h40 (hF1 1 (by omega) (by omega) (by omega)) (fun b b0 b1 => hF1 b (by omega) (by omega) (by omega)) HX
        refine c_X8_choose hW hG HX1 hs q5 q8 q9 q10 fun m2 r1 => ?_
        have hF2 : frG a μ0 m2 := fun b b1 b2 b3 => by rw [r1 b (by omega) (by omega) (by omega) (by omega) (by omega)]; exact hF1 b b1 b2 b3
        have HX2 : IXg m2 n R := IXg_congr h40 (hF2 1 (by omega) (by omega) (by omega)) (fun b b0 b1 => hF2 b (by omega) (by omega) (by omega)) HX
        have epk : pickF n R (wn (P L)) (ww (P L)) (wh (P L)) (wk (P L)) = pickT n R (P L) := rfl
        have c249 : m2 249 = m1 249 := r1 249 (by omega) (by omega) (by omega) (by omega) (by omega)
        refine g_X8_grow_48 hW hA ?_
        rw [HX2.1, epk]
        by_cases hp : pickT n R (P L) = -9
        · rw [drawF_1 fuel (by omega) hp] at k
          refine ⟨fun q => absurd q (by omega), fun _ => k m2 (fun q => absurd (show (1 : Int) = 0 from q) (by decide)) (fun _ => ?_) hF2⟩
          rw [c249]; exact q10
        · obtain ⟨r, er, hr, -, hh⟩ := pickT_is hp
          have ho := hG.2 r hr
          have hc := dInv_c hI hd
          rw [er]
          refine ⟨fun _ => ⟨by omega, ?_⟩, fun q => absurd q (by omega)⟩
          rw [Int.toNat_natCast]
          have hD2 : drX m2 a W H c st z cv := drX_congr (fun b b0 b1 => by rw [r1 b (by omega) (by omega) (by omega) (by omega) (by omega)]; exact p3 b (by omega)) hD
          obtain ⟨⟨d2, d3, d4, d5⟩, d6, d7⟩ := hD2
          have ecost : m2 (7 + 5 * r) 3 = rc (R r) := (HX2.2 r hr).1.2.2.1
          have bc := ho.2.2.1
          have bz := hI.2.2.2.2.1
          refine g_X2_add_0 hW hA ?_
          rw [d4, d5, ecost, Int.toNat_natCast, w8_id (x := ((r : Nat) : Int)) (by omega) (by omega), w8_id (x := ((r : Nat) : Int)) (by omega) (by omega), wi1 (by omega), w32_id (x := z + rc (R r)) (by omega) (by omega)]
          refine ⟨fun q => absurd q (by omega), fun _ => ⟨by omega, ?_⟩⟩
          have hb3 : ∀ b, b ≠ a → b ≠ a + 2 → up (up (up m2 (a + 2) c (r : Nat)) a 4 ((c + 1 : Nat) : Int)) a 5 (z + rc (R r)) b = m2 b := fun b b0 b1 => by simp (disch := omega) only [up_o']
          have hD3 : drX (up (up (up m2 (a + 2) c (r : Nat)) a 4 ((c + 1 : Nat) : Int)) a 5 (z + rc (R r))) a W H (c + 1) (snoc st c (r : Nat)) (z + rc (R r)) cv := by
            refine ⟨⟨?_, ?_, ?_, ?_⟩, fun j hj => ?_, fun p hp v hv => ?_⟩
            · simp (disch := omega) only [up_a', up_k']; exact d2
            · simp (disch := omega) only [up_a', up_k']; exact d3
            · simp (disch := omega) only [up_s, up_k']
            · simp (disch := omega) only [up_s]
            · by_cases e : j = c
              · subst e; rw [snoc_n]; simp (disch := omega) only [up_s, up_a']
              · rw [snoc_l (by omega)]; simp (disch := omega) only [up_a', up_k']; exact d6 j (by omega)
            · rw [hb3 (a + 1) (by omega) (by omega)]; exact d7 p hp v hv
          generalize hm3 : up (up (up m2 (a + 2) c (r : Nat)) a 4 ((c + 1 : Nat) : Int)) a 5 (z + rc (R r)) = m3 at hb3 hD3
          have hF3 : frG a μ0 m3 := fun b b1 b2 b3 => by rw [hb3 b (by omega) (by omega)]; exact hF2 b b1 b2 b3
          have HR3 : atR m3 (7 + 5 * r) (R r) := atR_congr (fun b b0 b1 => hb3 b (by omega) (by omega)) (HX2.2 r hr)
          have c249' : m3 249 = m1 249 := by rw [hb3 249 (by omega) (by omega)]; exact c249
          have pX3 : pileX m3 L P := pileX_fr (fun b b0 b1 => by rw [hb3 b (by omega) (by omega)]; exact r1 b (by omega) (by omega) (by omega) (by omega) (by omega)) p1
          refine g_X8_grow_87 hW hA (show isRule (7 + 5 * r) from ⟨r, by omega, rfl⟩) ?_
          rw [atR_kind HR3]
          refine ⟨fun hk => ?_, fun hk => ?_⟩
          · rw [drawF_s fuel (by omega) er hk] at k
            have hI' := dInv_spread hW2 hH2 hI hd (by omega) ho hh hk
            have hL' := dInv_L hI'
            refine c_X8_spread hW ⟨r, by omega, rfl⟩ HR3 ho hT hW2 hH2 (by omega) (T := P L) (by unfold curX; rw [c249']; exact p2') pX3 hh hL' fun m4 t1 t2 => ?_
            refine g_X8_grow_129 hW hA ?_
            rw [wi1 (by omega)]
            exact ih _ _ _ _ _ _ m4 (by omega) hI' t1 (drX_congr (fun b b0 b1 => t2 b (by omega) (by omega) (by omega)) hD3) (fun b b1 b2 b3 => by rw [t2 b b1 (by omega) (by omega)]; exact hF3 b b1 b2 b3) k
          · rw [drawF_f fuel (by omega) er hk] at k
            have hI' := dInv_fill hI hd (by omega) ho (rl (R r))
            have elet : m3 (7 + 5 * r) 4 = rl (R r) := HR3.1.2.2.2
            have hlet := (ho.2.2.2.2.2.1 hk).2
            rw [c249', q6, q7, q8, q9, elet]
            obtain ⟨-, ⟨u1, u2, u3⟩, u4, u5, u6⟩ := hT
            have ex : wx (P L) = (Int.toNat (wx (P L)) : Nat) := by omega
            have ey : wy (P L) = (Int.toNat (wy (P L)) : Nat) := by omega
            have ew : ww (P L) = (Int.toNat (ww (P L)) : Nat) := by omega
            have eh : wh (P L) = (Int.toNat (wh (P L)) : Nat) := by omega
            rw [ex, ey, ew, eh]
            refine c_X2_paint hW hA (by omega) (by omega) hlet fun m4 t1 t2 => ?_
            refine g_X8_grow_120 hW hA ?_
            refine g_X8_grow_129 hW hA ?_
            rw [wi1 (by omega)]
            refine ih _ _ _ _ _ _ m4 (by omega) hI' (pileX_fr (fun b b0 b1 => t2 b (by omega)) pX3) ?_ (fun b b1 b2 b3 => by rw [t2 b (by omega)]; exact hF3 b b1 b2 b3) k
            obtain ⟨e1, e2, e3⟩ := hD3
            refine ⟨by rw [t2 a (by omega)]; exact e1, by rw [t2 (a + 2) (by omega)]; exact e2, fun p hp v hv => ?_⟩
            obtain ⟨v1, v2⟩ := t1 p hp
            unfold paintC at hv
            by_cases hin : inR (Int.toNat (wx (P L))) (Int.toNat (wy (P L))) (Int.toNat (ww (P L))) (Int.toNat (wh (P L))) p
            · rw [cI_t hin] at hv
              rw [v1 hin]; exact Option.some.inj hv
            · rw [cI_f hin] at hv
              rw [v2 hin]; exact e3 p hp v hv
      · rw [drawF_2 fuel hd] at k
        exact k m1 (fun q => absurd (show (2 : Int) = 0 from q) (by decide)) (fun _ => q10) hF1
end XD
