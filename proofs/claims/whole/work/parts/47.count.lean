/-! WAYS: what a rule brings on a cell; the reference counts it -/
abbrev EV : Type := Bool × (Nat → Int)
def okL (e : EV) (x y w h : Nat) (l : Int) : Prop := e.1 = true → allL e.2 x y w h l
def pcX (d : RD) (x : Int) (w h : Int) (i : Nat) : Int := if rk d = 2 ∨ rk d = 4 then x else x + pcB d w h i
def pcY (d : RD) (y : Int) (w h : Int) (i : Nat) : Int := if rk d = 2 ∨ rk d = 4 then y + pcB d w h i else y
def pcW (d : RD) (w h : Int) (i : Nat) : Int := if rk d = 2 ∨ rk d = 4 then w else pcL d w h i
def pcH (d : RD) (w h : Int) (i : Nat) : Int := if rk d = 2 ∨ rk d = 4 then pcL d w h i else h
abbrev WV : Type := Nat → Nat → Nat → Nat → Nat → Int
/-- the value of piece i -/
def pcV (V : WV) (d : RD) (x y w h : Nat) (i : Nat) : Int := V (Int.toNat (pcX d x w h i)) (Int.toNat (pcY d y w h i)) (Int.toNat (pcW d w h i)) (Int.toNat (pcH d w h i)) (Int.toNat (pcNm d i))
def prodW (V : WV) (d : RD) (x y w h : Nat) : Nat → Int
  | 0 => 1
  | i + 1 => wmult (prodW V d x y w h i) (pcV V d x y w h i)
noncomputable def ctrW (e : EV) (V : WV) (d : RD) (x y w h : Nat) : Int := cI (holdsF d w h) (cI (rk d = 0) (cI (okL e x y w h (rl d)) 1 0) (cI (pcN d w h = 1) 0 (prodW V d x y w h (pcN d w h)))) 0
def tieP (d : RD) (w h : Nat) (k : Nat) : Prop := holdsF d w h ∧ rk d ≠ 0 ∧ pcN d w h = 1 ∧ pcNm d 0 = k
noncomputable def baseF (e : EV) (V : WV) (R : GR) (x y w h : Nat) : Nat → Nat → Int
  | 0, _ => 0
  | r + 1, n => wplus (baseF e V R x y w h r n) (cI (rn (R r) = n) (ctrW e V (R r) x y w h) 0)
noncomputable def leadF (R : GR) (w h : Nat) : Nat → Nat → Nat → Int
  | 0, _, _ => 0
  | r + 1, n, k => leadF R w h r n k + cI (rn (R r) = n ∧ tieP (R r) w h k) 1 0
/-- a cell of the free chart or of the board -/
def okCell (e : EV) (x y w h : Nat) : Prop := 1 ≤ w ∧ 1 ≤ h ∧ x + w ≤ 20 ∧ y + h ≤ 20 ∧ (e.1 = true → x + w ≤ 9 ∧ y + h ≤ 9)
def eI (e : EV) : Int := if e.1 then 1 else 0
/-- the table's place of a name on a cell -/
def plN (e : EV) (x y w h n : Nat) : Nat := Int.toNat (plF (eI e) x y w h) + n
theorem plN_b {e : EV} {x y w h n : Nat} (hc : okCell e x y w h) (hn : n < 8) : plF (eI e) x y w h = (Int.toNat (plF (eI e) x y w h) : Nat) ∧ plN e x y w h n < 55688 ∧ plN e x y w h 0 + 8 ≤ 55688 := by
  obtain ⟨h1, h2, h3, h4, h5⟩ := hc
  unfold plN plF eI
  by_cases q : e.1 = true
  · have := h5 q
    rw [if_pos q]
    rw [if_neg (by decide)]
    omega
  · rw [if_neg q]
    rw [if_pos rfl]
    omega
theorem pc_cell {e : EV} {d : RD} {x y w h : Nat} (ho : okR d) (hc : okCell e x y w h) (hh : holdsF d w h) {i : Nat} (hi : i < pcN d w h) : rk d ≠ 0 ∧ 0 ≤ pcX d x w h i ∧ 0 ≤ pcY d y w h i ∧ 1 ≤ pcW d w h i ∧ 1 ≤ pcH d w h i ∧ okCell e (Int.toNat (pcX d x w h i)) (Int.toNat (pcY d y w h i)) (Int.toNat (pcW d w h i)) (Int.toNat (pcH d w h i)) := by
  have hk : rk d ≠ 0 := fun q => by have e : pcN d w h = 0 := if_pos q; omega
  obtain ⟨h1, h2, h3, h4, h5⟩ := hc
  have hs : isSc (w : Int) (h : Int) := ⟨by omega, by omega⟩
  obtain ⟨b1, b2, b3⟩ := pcB_b ho hs hh hk hi
  unfold pcX pcY pcW pcH okCell
  unfold rLn at b3
  by_cases q : rk d = 2 ∨ rk d = 4
  · rw [if_pos q] at b3
    rw [if_pos q, if_pos q, if_pos q, if_pos q]
    refine ⟨hk, by omega, by omega, by omega, by omega, by omega, by omega, by omega, by omega, fun z => ?_⟩
    have := h5 z
    omega
  · rw [if_neg q] at b3
    rw [if_neg q, if_neg q, if_neg q, if_neg q]
    refine ⟨hk, by omega, by omega, by omega, by omega, by omega, by omega, by omega, by omega, fun z => ?_⟩
    have := h5 z
    omega
section CT
variable {sh : List (Nat × Nat)} {ν : Nat → Nat → Option Nat} {μ : Nat → Nat → Int} {f s : Nat} {Q : xQ}
/-- what counting leaves -/
def frN (μ μ' : Nat → Nat → Int) : Prop := (∀ b, b ≠ 265 → ¬ (278 ≤ b ∧ b ≤ 280) → b ≠ 297 → b ≠ 298 → μ' b = μ b) ∧ ∀ j, j ≠ 14 → μ' 265 j = μ 265 j
theorem c_X10_count (hW : WF sh ν f s) {e : EV} {V : WV} {r : Nat} (hr : r < 40) {d : RD} (hP : atM μ r d) (ho : okR d) {x y w h : Nat} (hc : okCell e x y w h) (he : μ 265 42 = eI e) (hB : e.1 = true → ∀ p, p < 81 → μ 292 p = e.2 p)
    (hV : holdsF d w h → pcN d w h ≠ 1 → ∀ i, i < pcN d w h → μ 293 (plN e (Int.toNat (pcX d x w h i)) (Int.toNat (pcY d y w h i)) (Int.toNat (pcW d w h i)) (Int.toNat (pcH d w h i)) (Int.toNat (pcNm d i))) = pcV V d x y w h i ∧ wOK (pcV V d x y w h i))
    (hb : ∀ n, n < 8 → wOK (μ 297 n)) (hl : ∀ n k, n < 8 → k < 8 → 0 ≤ μ 298 (8 * n + k) ∧ μ 298 (8 * n + k) ≤ 40)
    (k : ∀ μ' : Nat → Nat → Int, (∀ n, n < 8 → μ' 297 n = wplus (μ 297 n) (cI (rn d = n) (ctrW e V d x y w h) 0)) → (∀ n k, n < 8 → k < 8 → μ' 298 (8 * n + k) = μ 298 (8 * n + k) + cI (rn d = n ∧ tieP d w h k) 1 0) → frN μ μ' → Q none sh ν μ') : X mX10_count 0 [(0, vR 265), (1, vI (r : Nat)), (2, vI (x : Nat)), (3, vI (y : Nat)), (4, vI (w : Nat)), (5, vI (h : Nat))] [] sh ν μ 0 0 Q := by
  obtain ⟨c1, c2, c3, c4, c5⟩ := hc
  have hs : isSc (w : Int) (h : Int) := ⟨by omega, by omega⟩
  have o1 := ho.1
  obtain ⟨nn, hnn⟩ : ∃ nn : Nat, rn d = nn := ⟨Int.toNat (rn d), by omega⟩
  have hn8 : nn < 8 := by omega
  have P1 := hP.1
  refine g_X10_count_0 hW ?_
  rw [Int.toNat_natCast, P1.1, hnn]
  refine ⟨tI hr, ?_⟩
  -- nothing for the ties
  have noTie : ∀ m : Nat → Nat → Int, m 298 = μ 298 → (¬ ∃ k, tieP d w h k) → ∀ n k, n < 8 → k < 8 → m 298 (8 * n + k) = μ 298 (8 * n + k) + cI (rn d = n ∧ tieP d w h k) 1 0 := fun m hm hn n k _ _ => by
    rw [hm, cI_f fun z => hn ⟨k, z.2⟩, Int.add_zero]
  -- base of nn becomes z
  have addB : ∀ (m : Nat → Nat → Int) (z : Int), m 297 = μ 297 → wOK z → z = ctrW e V d x y w h → ∀ n, n < 8 → up m 297 nn (wplus (μ 297 nn) z) 297 n = wplus (μ 297 n) (cI (rn d = n) (ctrW e V d x y w h) 0) := fun m z hm _ hz n hn => by
    by_cases q : n = nn
    · rw [q, up_s, cI_t hnn, hz]
    · rw [up_k' q, cI_f fun z => q (by omega), hm, wplus_0 (hb n hn)]
  refine c_X10_lay hW hr hP ho hs.1 hs.2 (fun g m1 g1 g2 => ?_) (fun g m1 g2 => ?_)
  · obtain ⟨a1, a2, a3, a4, a5⟩ := P1
    have q267 : m1 267 = μ 267 := g2.1 267 (by decide) (by decide) (by decide) (by decide)
    have q297 : m1 297 = μ 297 := g2.1 297 (by decide) (by decide) (by decide) (by decide)
    have q298 : m1 298 = μ 298 := g2.1 298 (by decide) (by decide) (by decide) (by decide)
    have q42 : m1 265 42 = eI e := by rw [g2.2 42 (by decide)]; exact he
    refine g_X10_count_17 hW ⟨fun _ => ?_, fun q => absurd q (by decide)⟩
    rw [Int.toNat_natCast, Int.toNat_natCast, q267, a2, q42, g1.1, q297]
    refine ⟨tI hr, fun hk => ⟨fun hN => ⟨tI hr, ?_⟩, fun hN => ?_⟩, fun hk => ⟨tI hn8, ?_⟩⟩
    · have hN' : pcN d w h ≠ 1 := fun z => hN (by rw [z]; rfl)
      have hct : ctrW e V d x y w h = prodW V d x y w h (pcN d w h) := by unfold ctrW; rw [cI_t g, cI_f hk, cI_f hN']
      have h20 := pcN_20 ho hs
      have okP : ∀ i, i ≤ pcN d w h → wOK (prodW V d x y w h i) := by
        intro i
        induction i with
        | zero => exact fun _ => Or.inr ⟨show (0 : Int) ≤ 1 by decide, show (1 : Int) ≤ 1000000000000000000 by decide⟩
        | succ i ih => exact fun hi => wOK_mult (ih (by omega)) (hV g hN' i (by omega)).2
      have key := loop_up (pcN d w h) (fun (i : Nat) (m : Nat → Nat → Int) => m = m1) (fun i m => X mX10_count 122 [(0, vR 265), (2, vI (x : Nat)), (3, vI (y : Nat)), (4, vI (w : Nat)), (5, vI (h : Nat)), (6, vI (nn : Nat)), (7, vI (bI (rk d = 2 ∨ rk d = 4))), (8, vL (prodW V d x y w h i)), (10, vI (i : Nat))] [] sh ν m 0 0 Q) ?_ ?_ 0 m1 (Nat.zero_le _) rfl
      · exact key
      · rintro m hm
        rw [hm]
        refine g_X10_count_122 hW ?_
        rw [g1.1, Int.toNat_natCast, q297]
        refine ⟨fun _ => ⟨tI hn8, hb nn hn8, okP _ (Nat.le_refl _), tI hn8, ?_⟩, fun q => absurd q (by omega)⟩
        refine k _ (addB m1 _ q297 (okP _ (Nat.le_refl _)) hct.symm) (noTie _ (by rw [up_o' (by decide)]; exact q298) fun ⟨k, z⟩ => hN' z.2.2.1) ⟨fun b b0 b1 b2 b3 => ?_, fun j hj => ?_⟩
        · rw [up_o' b2]; exact g2.1 b b0 (by omega) (by omega) (by omega)
        · rw [up_a' (by decide)]; exact g2.2 j hj
      · rintro i m hi hm ih
        rw [hm]
        obtain ⟨l1, l2, l3⟩ := g1.2 i hi
        obtain ⟨-, p1, p2, p3, p4, p5⟩ := pc_cell ho ⟨c1, c2, c3, c4, c5⟩ g hi
        obtain ⟨v1, v2⟩ := hV g hN' i hi
        have hnm := pcNm_b ho hk hi
        have hpl := plN_b (n := Int.toNat (pcNm d i)) p5 (by omega)
        have h185 : ∀ z : Int, z = plF (eI e) (pcX d x w h i) (pcY d y w h i) (pcW d w h i) (pcH d w h i) → X mX10_count 185 [(0, vR 265), (2, vI (x : Nat)), (3, vI (y : Nat)), (4, vI (w : Nat)), (5, vI (h : Nat)), (6, vI (nn : Nat)), (7, vI (bI (rk d = 2 ∨ rk d = 4))), (8, vL (prodW V d x y w h i)), (10, vI (i : Nat))] [vI z] sh ν m1 0 0 Q := by
          rintro _ rfl
          rw [Int.toNat_of_nonneg p1, Int.toNat_of_nonneg p2, Int.toNat_of_nonneg (show 0 ≤ pcW d w h i by omega), Int.toNat_of_nonneg (show 0 ≤ pcH d w h i by omega)] at hpl
          have ez : w32 (plF (eI e) (pcX d x w h i) (pcY d y w h i) (pcW d w h i) (pcH d w h i) + pcNm d i) = (plN e (Int.toNat (pcX d x w h i)) (Int.toNat (pcY d y w h i)) (Int.toNat (pcW d w h i)) (Int.toNat (pcH d w h i)) (Int.toNat (pcNm d i)) : Nat) := by
            obtain ⟨z1, z2, -⟩ := hpl
            have z3 : (plN e (Int.toNat (pcX d x w h i)) (Int.toNat (pcY d y w h i)) (Int.toNat (pcW d w h i)) (Int.toNat (pcH d w h i)) (Int.toNat (pcNm d i)) : Int) = plF (eI e) (pcX d x w h i) (pcY d y w h i) (pcW d w h i) (pcH d w h i) + pcNm d i := by
              unfold plN
              rw [Int.toNat_of_nonneg p1, Int.toNat_of_nonneg p2, Int.toNat_of_nonneg (show 0 ≤ pcW d w h i by omega), Int.toNat_of_nonneg (show 0 ≤ pcH d w h i by omega), Int.natCast_add, ← z1, Int.toNat_of_nonneg hnm.1]
            rw [← z3, w32_id (by omega) (by omega)]
          refine g_X10_count_185 hW ?_
          rw [Int.toNat_natCast, l1, ez, Int.toNat_natCast, g2.1 293 (by decide) (by decide) (by decide) (by decide), v1, wi1 (by omega)]
          exact ⟨tI (show i < 20 by omega), tI hpl.2.1, okP i (by omega), v2, ih m1 rfl⟩
        obtain ⟨b1, b2, b3⟩ := pcB_b ho hs g hk hi
        unfold rLn at b3
        refine g_X10_count_122 hW ?_
        rw [g1.1, Int.toNat_natCast, Int.toNat_natCast, l2, l3, q42]
        refine ⟨fun q => absurd q (by omega), fun _ => ⟨fun q => ?_, fun q => ?_⟩⟩
        · have hf := bI_eq.1 q
          rw [if_neg hf] at b3
          have e1 : w32 ((x : Int) + pcB d w h i) = pcX d x w h i := by unfold pcX; rw [if_neg hf, w32_id (by omega) (by omega)]
          have e2 : (y : Int) = pcY d y w h i := by unfold pcY; rw [if_neg hf]
          have e3 : pcL d w h i = pcW d w h i := by unfold pcW; rw [if_neg hf]
          have e4 : (h : Int) = pcH d w h i := by unfold pcH; rw [if_neg hf]
          refine ⟨tI (show i < 20 by omega), tI (show i < 20 by omega), ?_, ?_, ?_, ?_, h185 _ ?_⟩
          · rw [w32_id (by omega) (by omega)]; omega
          · omega
          · omega
          · omega
          · rw [e1, ← e2, ← e3, ← e4]
        · have hf := bI_ne.1 q
          rw [if_pos hf] at b3
          have e1 : w32 ((y : Int) + pcB d w h i) = pcY d y w h i := by unfold pcY; rw [if_pos hf, w32_id (by omega) (by omega)]
          have e2 : (x : Int) = pcX d x w h i := by unfold pcX; rw [if_pos hf]
          have e3 : pcL d w h i = pcH d w h i := by unfold pcH; rw [if_pos hf]
          have e4 : (w : Int) = pcW d w h i := by unfold pcW; rw [if_pos hf]
          refine ⟨tI (show i < 20 by omega), tI (show i < 20 by omega), ?_, ?_, ?_, ?_, h185 _ ?_⟩
          · omega
          · rw [w32_id (by omega) (by omega)]; omega
          · omega
          · omega
          · rw [e1, ← e2, ← e3, ← e4]
    · have hN' : pcN d w h = 1 := by omega
      have hnm := pcNm_b ho hk (show 0 < pcN d (w : Int) (h : Int) by omega)
      obtain ⟨kk, hkk⟩ : ∃ kk : Nat, pcNm d 0 = kk := ⟨Int.toNat (pcNm d 0), by omega⟩
      have hk8 : kk < 8 := by omega
      have l280 : m1 280 (Int.toNat 0) = pcNm d 0 := (g1.2 0 (by omega)).1
      have hL := hl nn kk hn8 hk8
      rw [l280, hkk, ix8' hn8 hk8, Int.toNat_natCast, q298, w32_id (by omega) (by omega)]
      refine ⟨tI (nk88 hn8 hk8).2.2, tI (nk88 hn8 hk8).2.2, k _ (fun n hn => ?_) (fun n k' hn hk' => ?_) ⟨fun b b0 b1 b2 b3 => ?_, fun j hj => ?_⟩⟩
      · have hz : ctrW e V d x y w h = 0 := by unfold ctrW; rw [cI_t g, cI_f hk, cI_t hN']
        rw [up_o' (by decide), q297, hz]
        by_cases q : rn d = n
        · rw [cI_t q, wplus_0 (hb n hn)]
        · rw [cI_f q, wplus_0 (hb n hn)]
      · by_cases q : n = nn ∧ k' = kk
        · rw [q.1, q.2, up_s, cI_t ⟨hnn, g, hk, hN', hkk⟩]
        · rw [up_k' (show 8 * n + k' ≠ 8 * nn + kk by omega), cI_f fun z => q ⟨by have := z.1; omega, by have := z.2.2.2.2; omega⟩, q298, Int.add_zero]
      · rw [up_o' b3]; exact g2.1 b b0 (by omega) (by omega) (by omega)
      · rw [up_a' (by decide)]; exact g2.2 j hj
    · have noT : ¬ ∃ k, tieP d w h k := fun ⟨k, z⟩ => z.2.1 hk
      have h74 : ∀ z : Int, wOK z → z = ctrW e V d x y w h → X mX10_count 74 [] [vL z, vL (μ 297 nn), vI (nn : Nat), vR 297] sh ν m1 0 0 Q := by
        intro z hz1 hz2
        refine g_X10_count_74 hW (fa_X10_43 hW) ⟨hb nn hn8, hz1, tI hn8, ?_⟩
        rw [Int.toNat_natCast]
        refine k _ (addB m1 z q297 hz1 hz2) (noTie _ (by rw [up_o' (by decide)]; exact q298) noT) ⟨fun b b0 b1 b2 b3 => ?_, fun j hj => ?_⟩
        · rw [up_o' b2]; exact g2.1 b b0 (by omega) (by omega) (by omega)
        · rw [up_a' (by decide)]; exact g2.2 j hj
      have ok1 : wOK 1 := Or.inr ⟨by decide, by decide⟩
      have h69 : okL e x y w h (rl d) → X mX10_count 69 [] [vL (μ 297 nn), vI (nn : Nat), vR 297] sh ν m1 0 0 Q := fun q => g_X10_count_69 hW (fa_X10_43 hW) (h74 1 ok1 (by unfold ctrW; rw [cI_t g, cI_t hk, cI_t q]))
      refine ⟨fun q => h69 fun z => ?_, fun q => ⟨tI hr, ?_⟩⟩
      · unfold eI at q; rw [if_pos z] at q; exact absurd q (by decide)
      · have z : e.1 = true := Classical.byContradiction fun z => q (by unfold eI; exact if_neg z)
        have q269 : m1 269 = μ 269 := g2.1 269 (by decide) (by decide) (by decide) (by decide)
        have c9 := c5 z
        rw [q269, a4]
        refine c_X10_isAll hW (lt := e.2) c9.1 c9.2 (fun p hp => by rw [g2.1 292 (by decide) (by decide) (by decide) (by decide)]; exact hB z p hp) fun v hv => ?_
        refine g_X10_count_66 hW (fa_X10_43 hW) ⟨fun q => h74 0 wOK_0 ?_, fun q => h69 fun _ => hv.1 q⟩
        unfold ctrW; rw [cI_t g, cI_t hk, cI_f fun y => hv.2 (y z) q]
  · have hz : ctrW e V d x y w h = 0 := by unfold ctrW; rw [cI_f g]
    refine g_X10_count_17 hW ⟨fun q => absurd rfl q, fun _ => k m1 (fun n hn => ?_) (noTie m1 (g2.1 298 (by decide) (by decide) (by decide) (by decide)) fun ⟨k, z⟩ => g z.1) ⟨fun b b0 b1 b2 b3 => g2.1 b b0 (by omega) (by omega) (by omega), fun j hj => g2.2 j hj⟩⟩
    rw [g2.1 297 (by decide) (by decide) (by decide) (by decide), hz]
    by_cases q : rn d = n
    · rw [cI_t q, wplus_0 (hb n hn)]
    · rw [cI_f q, wplus_0 (hb n hn)]
end CT
