/-! the reference's ways, least, parses, best, stands -/
def IMt (m : Nat → Nat → Int) (nR : Nat) (R : GR) (B : BD) : Prop := tbd m ∧ (m 265 49 = 0 ∨ (m 265 49 ≠ 0 ∧ dnT m eFr R nR (okCell eFr))) ∧ (m 265 50 = 0 ∨ (m 265 50 ≠ 0 ∧ dnT m (eBd B) R nR (inB B)))
/-- what asking leaves -/
def frR (μ μ' : Nat → Nat → Int) : Prop := (∀ b, b ≠ 265 → ¬ (278 ≤ b ∧ b ≤ 280) → ¬ (293 ≤ b ∧ b ≤ 300) → μ' b = μ b) ∧ ∀ j, j ≠ 14 → j ≠ 47 → j ≠ 48 → j ≠ 42 → j ≠ 49 → j ≠ 50 → μ' 265 j = μ 265 j
noncomputable def costV (v : Int) : Int := cI (v = -9) (-9) (v / 1048576)
noncomputable def ansWays (nR : Nat) (R : GR) (n w h : Int) : Int := cI (0 ≤ n ∧ n ≤ 7) (cI (isSc w h) (VW eFr R nR 0 0 (Int.toNat w) (Int.toNat h) (Int.toNat n)) (-2)) (-1)
noncomputable def ansLeast (nR : Nat) (R : GR) (n w h : Int) : Int := cI (0 ≤ n ∧ n ≤ 7) (cI (isSc w h) (costV (VB eFr R nR 0 0 (Int.toNat w) (Int.toNat h) (Int.toNat n))) (-2)) (-1)
noncomputable def ansParses (nR : Nat) (R : GR) (B : BD) : Int := VW (eBd B) R nR 0 0 (Int.toNat (bw B)) (Int.toNat (bh B)) 0
noncomputable def ansBest (nR : Nat) (R : GR) (B : BD) : Int := costV (VB (eBd B) R nR 0 0 (Int.toNat (bw B)) (Int.toNat (bh B)) 0)
noncomputable def ansStands (nR : Nat) (R : GR) (B : BD) (n p w h : Int) : Int := cI ((0 ≤ n ∧ n ≤ 7) ∧ isPl B p) (cI ((1 ≤ w ∧ w ≤ bw B - p % 9) ∧ 1 ≤ h ∧ h ≤ bh B - p / 9) (VW (eBd B) R nR (Int.toNat (p % 9)) (Int.toNat (p / 9)) (Int.toNat w) (Int.toNat h) (Int.toNat n)) (-2)) (-1)
section MW
variable {sh : List (Nat × Nat)} {ν : Nat → Nat → Option Nat} {μ : Nat → Nat → Int} {f s : Nat} {Q : xQ} {nR : Nat} {R : GR} {B : BD}
theorem frS_R {lo hi : Nat} {m : Nat → Nat → Int} (h : frS lo hi μ m) : frR μ m := ⟨h.1, h.2.1⟩
theorem dnT_keep {e : EV} {P : Nat → Nat → Nat → Nat → Prop} {lo hi : Nat} {m m' : Nat → Nat → Int} (h : frS lo hi m m') (hP : ∀ x y w h, P x y w h → ∀ n, n < 8 → ¬ (lo ≤ plN e x y w h n ∧ plN e x y w h n < hi)) (hd : dnT m e R nR P) : dnT m' e R nR P := by
  intro x y w h' hc n hn
  obtain ⟨f1, f2, f3, f4⟩ := h.2.2 _ (hP x y w h' hc n hn)
  have := hd x y w h' hc n hn
  unfold enV enB at *
  rw [f1, f2, f3, f4]
  exact this
theorem mt_scopes (hW : WF sh ν f s) (hG : okG nR R) (HM : IMg μ nR R) (hB : okB B) (HT : IMt μ nR R B) (k : ∀ μ' : Nat → Nat → Int, dnT μ' eFr R nR (okCell eFr) → μ' 265 42 = 0 → IMt μ' nR R B → frR μ μ' → Q none sh ν μ') : X mX10_workScopes 0 [(0, vR 265)] [] sh ν μ 0 0 Q := by
  obtain ⟨t1, t2, t3⟩ := HT
  refine c_X10_workScopes hW hG HM t1 t2 fun μ' y1 y2 y3 y4 y5 y6 => k μ' y1 y4 ⟨y2, Or.inr ⟨by omega, y1⟩, ?_⟩ (frS_R y6)
  rcases t3 with q | ⟨q1, q2⟩
  · exact Or.inl (by omega)
  · refine Or.inr ⟨by omega, dnT_keep y6 (fun x y w h hc n hn => ?_) q2⟩
    have := (plN_side (inB_ok hB hc) hn).1 rfl
    omega
theorem mt_board (hW : WF sh ν f s) (hG : okG nR R) (HM : IMg μ nR R) (hB : okB B) (HB : IMb μ B) (HT : IMt μ nR R B) (k : ∀ μ' : Nat → Nat → Int, dnT μ' (eBd B) R nR (inB B) → μ' 265 42 = 1 → IMt μ' nR R B → frR μ μ' → Q none sh ν μ') : X mX10_workBoard 0 [(0, vR 265)] [] sh ν μ 0 0 Q := by
  obtain ⟨t1, t2, t3⟩ := HT
  refine c_X10_workBoard hW hG HM hB HB t1 t3 fun μ' y1 y2 y3 y4 y5 y6 => k μ' y1 y4 ⟨y2, ?_, Or.inr ⟨y3, y1⟩⟩ (frS_R y6)
  rcases t2 with q | ⟨q1, q2⟩
  · exact Or.inl (by omega)
  · refine Or.inr ⟨by omega, dnT_keep y6 (fun x y w h hc n hn => ?_) q2⟩
    have := (plN_side hc hn).2 rfl
    omega
theorem plN_i {e : EV} {x y w h n : Nat} (hc : okCell e x y w h) (hn : n < 8) : w32 (plF (eI e) x y w h + (n : Int)) = (plN e x y w h n : Nat) ∧ plN e x y w h n < 55688 := by
  obtain ⟨z1, z2, -⟩ := plN_b hc hn
  have z3 : (plN e x y w h n : Int) = plF (eI e) x y w h + n := by
    unfold plN
    rw [Int.natCast_add, ← z1]
  exact ⟨by rw [← z3, w32_id (by omega) (by omega)], z2⟩
theorem VP_ne (hG : okG nR R) {e : EV} {x y w h n : Nat} (hc : okCell e x y w h) (hn : n < 8) : VP e R nR x y w h n ≠ -9 ↔ VB e R nR x y w h n ≠ -9 := not_congr (VP_none hG hc hn)
theorem c_X10_ways (hW : WF sh ν f s) (hG : okG nR R) (HM : IMg μ nR R) (hB : okB B) (HT : IMt μ nR R B) {n w h : Int} (k : ∀ μ' : Nat → Nat → Int, IMt μ' nR R B → frR μ μ' → Q (some (vL (ansWays nR R n w h))) sh ν μ') : X mX10_ways 0 [(0, vR 265), (1, vI n), (2, vI w), (3, vI h)] [] sh ν μ 0 0 Q := by
  have k0 := k μ HT ⟨fun _ _ _ _ => rfl, fun _ _ _ _ _ _ _ => rfl⟩
  unfold ansWays at k k0
  refine g_X10_ways_0 hW ⟨fun q1 => ?_, fun q1 => ?_⟩
  · refine ⟨fun q2 => ?_, fun q2 => ⟨fun q3 => ?_, fun q3 => ?_⟩⟩
    · rw [cI_t q1, cI_f fun z => q2 z.1] at k0; exact k0
    · refine mt_scopes hW hG HM hB HT fun μ' y1 y2 y3 y4 => ?_
      have hk := k μ' y3 y4
      rw [cI_t q1, cI_t ⟨q2, q3⟩] at hk
      obtain ⟨nn, rfl⟩ : ∃ nn : Nat, n = nn := ⟨Int.toNat n, by omega⟩
      obtain ⟨ww, rfl⟩ : ∃ nn : Nat, w = nn := ⟨Int.toNat w, by omega⟩
      obtain ⟨hh, rfl⟩ : ∃ nn : Nat, h = nn := ⟨Int.toNat h, by omega⟩
      rw [Int.toNat_natCast, Int.toNat_natCast, Int.toNat_natCast] at hk
      have hc : okCell eFr 0 0 ww hh := ⟨by omega, by omega, by omega, by omega, fun z => absurd z (by decide)⟩
      obtain ⟨z1, z2⟩ := plN_i (n := nn) hc (by omega)
      refine g_X10_ways_33 hW ?_
      rw [y2, show plF 0 0 0 ww hh = plF (eI eFr) (0 : Nat) (0 : Nat) ww hh from rfl, z1, Int.toNat_natCast, (y1 0 0 ww hh hc nn (by omega)).1]
      exact ⟨by decide, by decide, q2, q3, tI z2, hk⟩
    · rw [cI_t q1, cI_f fun z => q3 z.2] at k0; exact k0
  · rw [cI_f q1] at k0; exact k0
theorem enB_cost {e : EV} {m : Nat → Nat → Int} {x y w h n : Nat} (hG : okG nR R) (hc : okCell e x y w h) (hn : n < 8) (he : enB m e R nR x y w h n) : (m 296 (plN e x y w h n) ≠ -9 → m 294 (plN e x y w h n) = costV (VB e R nR x y w h n)) ∧ (m 296 (plN e x y w h n) = -9 → costV (VB e R nR x y w h n) = -9) := by
  obtain ⟨h1, h2⟩ := he
  have h3 := VP_none hG hc hn
  rw [h1]
  constructor
  · intro q
    have q2 : VB e R nR x y w h n ≠ -9 := fun z => q (h3.2 z)
    unfold costV
    rw [cI_f q2]; exact (h2 q2).1
  · intro q
    exact cI_t (h3.1 q)
theorem c_X10_least (hW : WF sh ν f s) (hG : okG nR R) (HM : IMg μ nR R) (hB : okB B) (HT : IMt μ nR R B) {n w h : Int} (k : ∀ μ' : Nat → Nat → Int, IMt μ' nR R B → frR μ μ' → Q (some (vI (ansLeast nR R n w h))) sh ν μ') : X mX10_least 0 [(0, vR 265), (1, vI n), (2, vI w), (3, vI h)] [] sh ν μ 0 0 Q := by
  have k0 := k μ HT ⟨fun _ _ _ _ => rfl, fun _ _ _ _ _ _ _ => rfl⟩
  unfold ansLeast at k k0
  refine g_X10_least_0 hW ⟨fun q1 => ?_, fun q1 => ?_⟩
  · refine ⟨fun q2 => ?_, fun q2 => ⟨fun q3 => ?_, fun q3 => ?_⟩⟩
    · rw [cI_t q1, cI_f fun z => q2 z.1] at k0; exact k0
    · refine mt_scopes hW hG HM hB HT fun μ' y1 y2 y3 y4 => ?_
      have hk := k μ' y3 y4
      rw [cI_t q1, cI_t ⟨q2, q3⟩] at hk
      obtain ⟨nn, rfl⟩ : ∃ nn : Nat, n = nn := ⟨Int.toNat n, by omega⟩
      obtain ⟨ww, rfl⟩ : ∃ nn : Nat, w = nn := ⟨Int.toNat w, by omega⟩
      obtain ⟨hh, rfl⟩ : ∃ nn : Nat, h = nn := ⟨Int.toNat h, by omega⟩
      rw [Int.toNat_natCast, Int.toNat_natCast, Int.toNat_natCast] at hk
      have hc : okCell eFr 0 0 ww hh := ⟨by omega, by omega, by omega, by omega, fun z => absurd z (by decide)⟩
      obtain ⟨z1, z2⟩ := plN_i (n := nn) hc (by omega)
      obtain ⟨w1, w2⟩ := enB_cost hG hc (by omega) (y1 0 0 ww hh hc nn (by omega)).2
      refine g_X10_least_30 hW ?_
      rw [y2, show plF 0 0 0 ww hh = plF (eI eFr) (0 : Nat) (0 : Nat) ww hh from rfl, z1, Int.toNat_natCast]
      refine ⟨by decide, by decide, q2, q3, tI z2, fun q => ⟨tI z2, ?_⟩, fun q => ?_⟩
      · rw [w1 q]; exact hk
      · rw [w2 q] at hk; exact hk
    · rw [cI_t q1, cI_f fun z => q3 z.2] at k0; exact k0
  · rw [cI_f q1] at k0; exact k0
theorem c_X10_parses (hW : WF sh ν f s) (hG : okG nR R) (HM : IMg μ nR R) (hB : okB B) (HB : IMb μ B) (HT : IMt μ nR R B) (k : ∀ μ' : Nat → Nat → Int, IMt μ' nR R B → frR μ μ' → Q (some (vL (ansParses nR R B))) sh ν μ') : X mX10_parses 0 [(0, vR 265)] [] sh ν μ 0 0 Q := by
  refine g_X10_parses_0 hW ?_
  refine mt_board hW hG HM hB HB HT fun μ' y1 y2 y3 y4 => ?_
  have hk := k μ' y3 y4
  unfold ansParses at hk
  obtain ⟨⟨b1, b2⟩, ⟨b3, b4⟩, -⟩ := id hB
  obtain ⟨W, hWd⟩ : ∃ W : Nat, bw B = W := ⟨Int.toNat (bw B), by omega⟩
  obtain ⟨H, hHd⟩ : ∃ H : Nat, bh B = H := ⟨Int.toNat (bh B), by omega⟩
  rw [hWd, hHd, Int.toNat_natCast, Int.toNat_natCast] at hk
  have hi : inB B 0 0 W H := ⟨⟨by omega, by omega⟩, by omega, by omega⟩
  have hc := inB_ok hB hi
  obtain ⟨z1, z2, -⟩ := plN_b (n := 0) hc (by decide)
  refine g_X10_parses_4 hW ?_
  rw [y4.2 35 (by decide) (by decide) (by decide) (by decide) (by decide) (by decide), y4.2 36 (by decide) (by decide) (by decide) (by decide) (by decide) (by decide), HB.1, HB.2.1, y2, hWd, hHd, show plF 1 0 0 W H = plF (eI (eBd B)) (0 : Nat) (0 : Nat) W H from rfl]
  have e1 : plN (eBd B) 0 0 W H 0 = Int.toNat (plF (eI (eBd B)) (0 : Nat) (0 : Nat) W H) := rfl
  have h1 := (y1 0 0 W H hi 0 (by decide)).1
  unfold enV at h1
  rw [e1] at h1 z2
  rw [h1]
  exact ⟨by decide, by decide, by omega, by omega, by omega, hk⟩
theorem c_X10_best (hW : WF sh ν f s) (hG : okG nR R) (HM : IMg μ nR R) (hB : okB B) (HB : IMb μ B) (HT : IMt μ nR R B) (k : ∀ μ' : Nat → Nat → Int, IMt μ' nR R B → frR μ μ' → Q (some (vI (ansBest nR R B))) sh ν μ') : X mX10_best 0 [(0, vR 265)] [] sh ν μ 0 0 Q := by
  refine g_X10_best_0 hW ?_
  refine mt_board hW hG HM hB HB HT fun μ' y1 y2 y3 y4 => ?_
  have hk := k μ' y3 y4
  unfold ansBest at hk
  obtain ⟨⟨b1, b2⟩, ⟨b3, b4⟩, -⟩ := id hB
  obtain ⟨W, hWd⟩ : ∃ W : Nat, bw B = W := ⟨Int.toNat (bw B), by omega⟩
  obtain ⟨H, hHd⟩ : ∃ H : Nat, bh B = H := ⟨Int.toNat (bh B), by omega⟩
  rw [hWd, hHd, Int.toNat_natCast, Int.toNat_natCast] at hk
  have hi : inB B 0 0 W H := ⟨⟨by omega, by omega⟩, by omega, by omega⟩
  have hc := inB_ok hB hi
  obtain ⟨z1, z2, -⟩ := plN_b (n := 0) hc (by decide)
  refine g_X10_best_4 hW ?_
  rw [y4.2 35 (by decide) (by decide) (by decide) (by decide) (by decide) (by decide), y4.2 36 (by decide) (by decide) (by decide) (by decide) (by decide) (by decide), HB.1, HB.2.1, y2, hWd, hHd, show plF 1 0 0 W H = plF (eI (eBd B)) (0 : Nat) (0 : Nat) W H from rfl]
  have e1 : plN (eBd B) 0 0 W H 0 = Int.toNat (plF (eI (eBd B)) (0 : Nat) (0 : Nat) W H) := rfl
  obtain ⟨w1, w2⟩ := enB_cost hG hc (by decide) (y1 0 0 W H hi 0 (by decide)).2
  rw [e1] at w1 w2 z2
  refine ⟨by decide, by decide, by omega, by omega, by omega, fun q => ⟨by omega, ?_⟩, fun q => ?_⟩
  · rw [w1 q]; exact hk
  · rw [w2 q] at hk; exact hk
theorem c_X10_stands (hW : WF sh ν f s) (hG : okG nR R) (HM : IMg μ nR R) (hB : okB B) (HB : IMb μ B) (HT : IMt μ nR R B) {n p w h : Int} (k : ∀ μ' : Nat → Nat → Int, IMt μ' nR R B → frR μ μ' → Q (some (vL (ansStands nR R B n p w h))) sh ν μ') : X mX10_stands 0 [(0, vR 265), (1, vI n), (2, vI p), (3, vI w), (4, vI h)] [] sh ν μ 0 0 Q := by
  have k0 := k μ HT ⟨fun _ _ _ _ => rfl, fun _ _ _ _ _ _ _ => rfl⟩
  unfold ansStands at k k0
  obtain ⟨⟨b1, b2⟩, ⟨b3, b4⟩, -⟩ := id hB
  refine g_X10_stands_0 hW ?_
  rw [HB.1, HB.2.1]
  have hpl : (0 ≤ p ∧ p ≤ 80 ∧ p % 9 < bw B ∧ p / 9 < bh B) ↔ isPl B p := by unfold isPl; omega
  refine ⟨fun q1 => ?_, fun q1 => ⟨fun q2 => ?_, fun q2 => ?_⟩⟩
  · rw [cI_f fun z => q1 z.1] at k0; exact k0
  · have q2' := hpl.1 q2
    rw [Int.tmod_eq_emod_of_nonneg q2.1, Int.tdiv_eq_ediv_of_nonneg q2.1, w32_id (x := p % 9) (by omega) (by omega), w32_id (x := p / 9) (by omega) (by omega), w32_id (x := bw B - p % 9) (by omega) (by omega), w32_id (x := bh B - p / 9) (by omega) (by omega)]
    rw [cI_t ⟨q1, q2'⟩] at k0
    refine ⟨fun q3 => ?_, fun q3 => ⟨fun q4 => ?_, fun q4 => ?_⟩⟩
    · rw [cI_f fun z => q3 z.1] at k0; exact k0
    · refine mt_board hW hG HM hB HB HT fun μ' y1 y2 y3 y4 => ?_
      have hk := k μ' y3 y4
      rw [cI_t ⟨q1, q2'⟩, cI_t ⟨q3, q4⟩] at hk
      obtain ⟨nn, rfl⟩ : ∃ nn : Nat, n = nn := ⟨Int.toNat n, by omega⟩
      obtain ⟨ww, rfl⟩ : ∃ nn : Nat, w = nn := ⟨Int.toNat w, by omega⟩
      obtain ⟨hh, rfl⟩ : ∃ nn : Nat, h = nn := ⟨Int.toNat h, by omega⟩
      obtain ⟨xx, hxx⟩ : ∃ nn : Nat, p % 9 = nn := ⟨Int.toNat (p % 9), by omega⟩
      obtain ⟨yy, hyy⟩ : ∃ nn : Nat, p / 9 = nn := ⟨Int.toNat (p / 9), by omega⟩
      rw [hxx, hyy] at hk
      rw [Int.toNat_natCast, Int.toNat_natCast, Int.toNat_natCast, Int.toNat_natCast, Int.toNat_natCast] at hk
      have hi : inB B xx yy ww hh := ⟨⟨by omega, by omega⟩, by omega, by omega⟩
      have hc := inB_ok hB hi
      obtain ⟨z1, z2⟩ := plN_i (n := nn) hc (by omega)
      refine g_X10_stands_66 hW ?_
      rw [Int.tmod_eq_emod_of_nonneg q2.1, Int.tdiv_eq_ediv_of_nonneg q2.1, w32_id (x := p % 9) (by omega) (by omega), w32_id (x := p / 9) (by omega) (by omega), hxx, hyy, y2, show (1 : Int) = eI (eBd B) from rfl, z1, Int.toNat_natCast, (y1 xx yy ww hh hi nn (by omega)).1]
      exact ⟨by omega, by omega, ⟨q3.1, by omega⟩, ⟨q4.1, by omega⟩, tI z2, hk⟩
    · rw [cI_f fun z => q4 z.2] at k0; exact k0
  · rw [cI_f fun z => q2 (hpl.2 z.2)] at k0; exact k0
end MW
