/-! BEST: the reference tries a rule on a cell -/
/-- the table's place of piece i -/
def pcI (e : EV) (d : RD) (x y w h : Nat) (i : Nat) : Nat := plN e (Int.toNat (pcX d x w h i)) (Int.toNat (pcY d y w h i)) (Int.toNat (pcW d w h i)) (Int.toNat (pcH d w h i)) (Int.toNat (pcNm d i))
theorem pcI_eq {e : EV} {d : RD} {x y w h : Nat} (ho : okR d) (hc : okCell e x y w h) (hh : holdsF d w h) {i : Nat} (hi : i < pcN d w h) : w32 (plF (eI e) (pcX d x w h i) (pcY d y w h i) (pcW d w h i) (pcH d w h i) + pcNm d i) = (pcI e d x y w h i : Nat) ∧ pcI e d x y w h i < 55688 := by
  obtain ⟨hk, p1, p2, p3, p4, p5⟩ := pc_cell ho hc hh hi
  have hnm := pcNm_b ho hk hi
  have hpl := plN_b (n := Int.toNat (pcNm d i)) p5 (by omega)
  rw [Int.toNat_of_nonneg p1, Int.toNat_of_nonneg p2, Int.toNat_of_nonneg (show 0 ≤ pcW d w h i by omega), Int.toNat_of_nonneg (show 0 ≤ pcH d w h i by omega)] at hpl
  obtain ⟨z1, z2, -⟩ := hpl
  have z3 : (pcI e d x y w h i : Int) = plF (eI e) (pcX d x w h i) (pcY d y w h i) (pcW d w h i) (pcH d w h i) + pcNm d i := by
    unfold pcI plN
    rw [Int.toNat_of_nonneg p1, Int.toNat_of_nonneg p2, Int.toNat_of_nonneg (show 0 ≤ pcW d w h i by omega), Int.toNat_of_nonneg (show 0 ≤ pcH d w h i by omega), Int.natCast_add, ← z1, Int.toNat_of_nonneg hnm.1]
  have z4 : pcI e d x y w h i < 55688 := z2
  exact ⟨by rw [← z3, w32_id (by omega) (by omega)], z4⟩
def tryP (μ : Nat → Nat → Int) (e : EV) (d : RD) (x y w h : Nat) : Prop := holdsF d w h ∧ (rk d = 0 → okL e x y w h (rl d)) ∧ ∀ i, i < pcN d w h → μ 296 (pcI e d x y w h i) ≠ -9
def tryC (μ : Nat → Nat → Int) (e : EV) (d : RD) (x y w h : Nat) (i : Nat) : Int := rc d + sumN i (fun i => μ 294 (pcI e d x y w h i))
def tryF (μ : Nat → Nat → Int) (e : EV) (d : RD) (x y w h : Nat) (i : Nat) : Int := 1 + sumN i (fun i => μ 295 (pcI e d x y w h i))
def frT (μ μ' : Nat → Nat → Int) : Prop := (∀ b, b ≠ 265 → ¬ (278 ≤ b ∧ b ≤ 280) → μ' b = μ b) ∧ ∀ j, j ≠ 14 → j ≠ 47 → j ≠ 48 → μ' 265 j = μ 265 j
section TR
variable {sh : List (Nat × Nat)} {ν : Nat → Nat → Option Nat} {μ : Nat → Nat → Int} {f s : Nat} {Q : xQ}
theorem c_X10_tries (hW : WF sh ν f s) {e : EV} {r : Nat} (hr : r < 40) {d : RD} (hP : atM μ r d) (ho : okR d) {x y w h : Nat} (hc : okCell e x y w h) (he : μ 265 42 = eI e) (hB : e.1 = true → ∀ p, p < 81 → μ 292 p = e.2 p)
    (hbd : ∀ j, μ 296 j ≠ -9 → (0 ≤ μ 294 j ∧ μ 294 j ≤ 10000000) ∧ 0 ≤ μ 295 j ∧ μ 295 j ≤ 10000000)
    (k1 : tryP μ e d x y w h → ∀ μ' : Nat → Nat → Int, μ' 265 47 = tryC μ e d x y w h (pcN d w h) → μ' 265 48 = tryF μ e d x y w h (pcN d w h) → frT μ μ' → Q (some (vI 1)) sh ν μ')
    (k0 : ¬ tryP μ e d x y w h → ∀ μ' : Nat → Nat → Int, frT μ μ' → Q (some (vI 0)) sh ν μ') : X mX10_tries 0 [(0, vR 265), (1, vI (r : Nat)), (2, vI (x : Nat)), (3, vI (y : Nat)), (4, vI (w : Nat)), (5, vI (h : Nat))] [] sh ν μ 0 0 Q := by
  obtain ⟨c1, c2, c3, c4, c5⟩ := id hc
  have hs : isSc (w : Int) (h : Int) := ⟨by omega, by omega⟩
  have h20 := pcN_20 ho hs
  have bc := ho.2.2.1
  obtain ⟨a1, a2, a3, a4, a5⟩ := hP.1
  refine g_X10_tries_0 hW ?_
  rw [Int.toNat_natCast, a3]
  refine ⟨tI hr, ?_⟩
  have hb0 : ∀ b, b ≠ 265 → up (up μ 265 47 (rc d)) 265 48 1 b = μ b := fun b hb => by rw [up_o' hb, up_o' hb]
  have hj0 : ∀ j, j ≠ 47 → j ≠ 48 → up (up μ 265 47 (rc d)) 265 48 1 265 j = μ 265 j := fun j j0 j1 => by rw [up_k' j1, up_k' j0]
  have e47 : up (up μ 265 47 (rc d)) 265 48 1 265 47 = rc d := by rw [up_k' (by decide), up_s]
  have e48 : up (up μ 265 47 (rc d)) 265 48 1 265 48 = 1 := up_s ..
  generalize up (up μ 265 47 (rc d)) 265 48 1 = m0 at hb0 hj0 e47 e48
  have hP0 : atM m0 r d := by
    unfold atM at hP ⊢
    rw [hb0 266 (by decide), hb0 267 (by decide), hb0 268 (by decide), hb0 269 (by decide), hb0 270 (by decide), hb0 271 (by decide), hb0 272 (by decide), hb0 273 (by decide), hb0 274 (by decide)]
    exact hP
  refine c_X10_lay hW hr hP0 ho hs.1 hs.2 (fun g m1 g1 g2 => ?_) (fun g m1 g2 => ?_)
  · have f1 : ∀ b, b ≠ 265 → ¬ (278 ≤ b ∧ b ≤ 280) → m1 b = μ b := fun b b0 b1 => by rw [g2.1 b b0 (by omega) (by omega) (by omega)]; exact hb0 b b0
    have f2 : ∀ j, j ≠ 14 → j ≠ 47 → j ≠ 48 → m1 265 j = μ 265 j := fun j j0 j1 j2 => by rw [g2.2 j j0]; exact hj0 j j1 j2
    have q267 : m1 267 = μ 267 := f1 267 (by decide) (by decide)
    have q42 : m1 265 42 = eI e := by rw [f2 42 (by decide) (by decide) (by decide)]; exact he
    have h64 : (rk d = 0 → okL e x y w h (rl d)) → X mX10_tries 64 [(0, vR 265), (1, vI (r : Nat)), (2, vI (x : Nat)), (3, vI (y : Nat)), (4, vI (w : Nat)), (5, vI (h : Nat))] [] sh ν m1 0 0 Q := by
      intro hlt
      refine g_X10_tries_64 hW ?_
      rw [Int.toNat_natCast, q267, a2]
      refine ⟨tI hr, ?_⟩
      have key := loop_up (pcN d w h) (fun (i : Nat) (m : Nat → Nat → Int) => (∀ j, j < i → μ 296 (pcI e d x y w h j) ≠ -9) ∧ (m 265 47 = tryC μ e d x y w h i ∧ m 265 48 = tryF μ e d x y w h i) ∧ (∀ b, b ≠ 265 → m b = m1 b) ∧ ∀ j, j ≠ 47 → j ≠ 48 → m 265 j = m1 265 j) (fun i m => X mX10_tries 77 [(0, vR 265), (2, vI (x : Nat)), (3, vI (y : Nat)), (4, vI (w : Nat)), (5, vI (h : Nat)), (6, vI (bI (rk d = 2 ∨ rk d = 4))), (7, vI 1), (8, vI (i : Nat))] [] sh ν m 0 0 Q) ?_ ?_ 0 m1 (Nat.zero_le _) ⟨fun j hj => absurd hj (Nat.not_lt_zero j), ⟨?_, ?_⟩, fun _ _ => rfl, fun _ _ _ => rfl⟩
      · exact key
      · rintro m ⟨u1, u2, u3, u4⟩
        refine g_X10_tries_77 hW ?_
        rw [u4 14 (by decide) (by decide), g1.1]
        refine ⟨fun _ => ⟨Or.inr rfl, k1 ⟨g, hlt, u1⟩ m u2.1 u2.2 ⟨fun b b0 b1 => by rw [u3 b b0]; exact f1 b b0 b1, fun j j0 j1 j2 => by rw [u4 j j1 j2]; exact f2 j j0 j1 j2⟩⟩, fun q => absurd q (by omega)⟩
      · rintro i m hi ⟨u1, u2, u3, u4⟩ ih
        obtain ⟨l1, l2, l3⟩ := g1.2 i hi
        obtain ⟨hk, p1, p2, p3, p4, p5⟩ := pc_cell ho hc g hi
        obtain ⟨v1, v2⟩ := pcI_eq ho hc g hi
        have hbs : ∀ j, j ≤ i → (0 ≤ sumN j (fun i => μ 294 (pcI e d x y w h i)) ∧ sumN j (fun i => μ 294 (pcI e d x y w h i)) ≤ j * 10000000) ∧ 0 ≤ sumN j (fun i => μ 295 (pcI e d x y w h i)) ∧ sumN j (fun i => μ 295 (pcI e d x y w h i)) ≤ j * 10000000 := fun j hj => ⟨sumN_le fun a ha => (hbd _ (u1 a (by omega))).1, sumN_le fun a ha => (hbd _ (u1 a (by omega))).2⟩
        have hb1 := hbs i (Nat.le_refl i)
        have q296 : m 296 = μ 296 := by rw [u3 296 (by decide)]; exact f1 296 (by decide) (by decide)
        have q294 : m 294 = μ 294 := by rw [u3 294 (by decide)]; exact f1 294 (by decide) (by decide)
        have q295 : m 295 = μ 295 := by rw [u3 295 (by decide)]; exact f1 295 (by decide) (by decide)
        have e47' : m 265 47 = rc d + sumN i (fun i => μ 294 (pcI e d x y w h i)) := u2.1
        have e48' : m 265 48 = 1 + sumN i (fun i => μ 295 (pcI e d x y w h i)) := u2.2
        have h145 : ∀ z : Int, z = plF (eI e) (pcX d x w h i) (pcY d y w h i) (pcW d w h i) (pcH d w h i) → X mX10_tries 145 [(0, vR 265), (2, vI (x : Nat)), (3, vI (y : Nat)), (4, vI (w : Nat)), (5, vI (h : Nat)), (6, vI (bI (rk d = 2 ∨ rk d = 4))), (8, vI (i : Nat))] [vI z] sh ν m 0 0 Q := by
          rintro _ rfl
          refine g_X10_tries_145 hW ?_
          rw [Int.toNat_natCast, u3 280 (by decide), l1, v1, Int.toNat_natCast, q296]
          refine ⟨tI (show i < 20 by omega), tI v2, fun q => ?_, fun q => ?_⟩
          · refine g_X10_tries_176 hW ⟨fun _ => ?_, fun z => absurd rfl z⟩
            refine g_X10_tries_199 hW ⟨fun _ => ?_, fun z => absurd rfl z⟩
            refine g_X10_tries_224 hW ?_
            have hn : ¬ tryP μ e d x y w h := fun z => z.2.2 i hi q
            refine g_X10_tries_77 hW ⟨fun _ => ⟨Or.inl rfl, k0 hn _ ⟨fun b b0 b1 => ?_, fun j j0 j1 j2 => ?_⟩⟩, fun _ => ⟨fun _ => ⟨Or.inl rfl, k0 hn _ ⟨fun b b0 b1 => ?_, fun j j0 j1 j2 => ?_⟩⟩, fun z => absurd rfl z⟩⟩
            · rw [up_o' b0, up_o' b0, u3 b b0]; exact f1 b b0 b1
            · rw [up_k' j2, up_k' j1, u4 j j1 j2]; exact f2 j j0 j1 j2
            · rw [up_o' b0, up_o' b0, u3 b b0]; exact f1 b b0 b1
            · rw [up_k' j2, up_k' j1, u4 j j1 j2]; exact f2 j j0 j1 j2
          · obtain ⟨bd1, bd2⟩ := hbd _ q
            refine g_X10_tries_176 hW ⟨fun z => absurd z (by decide), fun _ => ?_⟩
            rw [Int.toNat_natCast, q294, e47']
            refine ⟨tI v2, ?_⟩
            refine g_X10_tries_199 hW ⟨fun z => absurd z (by decide), fun _ => ?_⟩
            rw [Int.toNat_natCast, q295, e48', w32_id (x := rc d + sumN i (fun i => μ 294 (pcI e d x y w h i)) + μ 294 (pcI e d x y w h i)) (by omega) (by omega)]
            refine ⟨tI v2, ?_⟩
            refine g_X10_tries_224 hW ?_
            rw [wi1 (by omega), w32_id (x := 1 + sumN i (fun i => μ 295 (pcI e d x y w h i)) + μ 295 (pcI e d x y w h i)) (by omega) (by omega)]
            refine ih _ ⟨fun j hj => ?_, ⟨?_, ?_⟩, fun b b0 => by rw [up_o' b0, up_o' b0]; exact u3 b b0, fun j j0 j1 => by rw [up_k' j1, up_k' j0]; exact u4 j j0 j1⟩
            · by_cases z : j = i
              · rw [z]; exact q
              · exact u1 j (by omega)
            · rw [up_k' (show (47 : Nat) ≠ 48 by decide), up_s]
              show _ = rc d + (sumN i (fun i => μ 294 (pcI e d x y w h i)) + μ 294 (pcI e d x y w h i))
              omega
            · rw [up_s]
              show _ = 1 + (sumN i (fun i => μ 295 (pcI e d x y w h i)) + μ 295 (pcI e d x y w h i))
              omega
        obtain ⟨b1, b2, b3⟩ := pcB_b ho hs g hk hi
        unfold rLn at b3
        refine g_X10_tries_77 hW ?_
        rw [u4 14 (by decide) (by decide), g1.1, Int.toNat_natCast, u3 278 (by decide), u3 279 (by decide), l2, l3, u4 42 (by decide) (by decide), q42]
        refine ⟨fun q => absurd q (by omega), fun _ => ⟨fun z => absurd z (by decide), fun _ => ⟨fun q => ?_, fun q => ?_⟩⟩⟩
        · have hf := bI_eq.1 q
          rw [if_neg hf] at b3
          have e1 : w32 ((x : Int) + pcB d w h i) = pcX d x w h i := by unfold pcX; rw [if_neg hf, w32_id (by omega) (by omega)]
          have e2 : (y : Int) = pcY d y w h i := by unfold pcY; rw [if_neg hf]
          have e3 : pcL d w h i = pcW d w h i := by unfold pcW; rw [if_neg hf]
          have e4 : (h : Int) = pcH d w h i := by unfold pcH; rw [if_neg hf]
          refine ⟨tI (show i < 20 by omega), tI (show i < 20 by omega), ?_, ?_, ?_, ?_, h145 _ ?_⟩
          · rw [w32_id (by omega) (by omega)]; omega
          · omega
          · omega
          · omega
          · rw [e1, ← e2, ← e3, ← e4]
        · have hf := bI_ne.1 q
          rw [if_pos hf] at b3
          have e1 : w32 ((y : Int) + pcB d w h i) = pcY d y w h i := by unfold pcY; rw [if_pos hf, w32_id (by omega) (by omega)]
          have e2 : (x : Int) = pcX d x w h i := by unfold pcX; rw [if_pos hf]
          have e3 : pcL d w h i = pcH d w h i := by unfold pcH; rw [if_pos hf]
          have e4 : (w : Int) = pcW d w h i := by unfold pcW; rw [if_pos hf]
          refine ⟨tI (show i < 20 by omega), tI (show i < 20 by omega), ?_, ?_, ?_, ?_, h145 _ ?_⟩
          · omega
          · rw [w32_id (by omega) (by omega)]; omega
          · omega
          · omega
          · rw [e1, ← e2, ← e3, ← e4]
      · rw [g2.2 47 (by decide), e47]; show rc d = rc d + 0; omega
      · rw [g2.2 48 (by decide), e48]; rfl
    refine g_X10_tries_24 hW ⟨fun q => absurd q (by decide), fun _ => ?_⟩
    rw [Int.toNat_natCast, q267, a2, q42]
    refine ⟨tI hr, fun hk => h64 fun z => absurd z hk, fun hk => ⟨fun q => h64 fun _ z => ?_, fun q => ⟨tI hr, ?_⟩⟩⟩
    · unfold eI at q; rw [if_pos z] at q; exact absurd q (by decide)
    · have z : e.1 = true := Classical.byContradiction fun z => q (by unfold eI; exact if_neg z)
      have c9 := c5 z
      rw [f1 269 (by decide) (by decide), a4]
      refine c_X10_isAll hW (lt := e.2) c9.1 c9.2 (fun p hp => by rw [f1 292 (by decide) (by decide)]; exact hB z p hp) fun v hv => ?_
      refine g_X10_tries_59 hW ⟨fun q => h64 fun _ _ => hv.1 q, fun q => k0 (fun y => hv.2 (y.2.1 hk z) q) m1 ⟨f1, f2⟩⟩
  · refine g_X10_tries_24 hW ⟨fun _ => k0 (fun q => g q.1) m1 ⟨fun b b0 b1 => ?_, fun j j0 j1 j2 => ?_⟩, fun q => absurd rfl q⟩
    · rw [g2.1 b b0 (by omega) (by omega) (by omega)]; exact hb0 b b0
    · rw [g2.2 j j0]; exact hj0 j j1 j2
end TR
