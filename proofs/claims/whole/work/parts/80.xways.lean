/-! ways, least, parses, best, stands of the class -/
section XW
variable {sh : List (Nat × Nat)} {ν : Nat → Nat → Option Nat} {μ : Nat → Nat → Int} {f s : Nat} {Q : xQ} {nR : Nat} {R : GR} {B : BD}
theorem evc_free : evc 213 B = eFr := rfl
theorem evc_bound : evc 231 B = eBd B := rfl
theorem VB_cost (hG : okG nR R) {e : EV} {x y w h n : Nat} (hc : okCell e x y w h) (hn : n < 8) : (VB e R nR x y w h n < 0 → costV (VB e R nR x y w h n) = -9 ∧ stepsV (VB e R nR x y w h n) = 0) ∧ (0 ≤ VB e R nR x y w h n → w32 (w64 (Int.tdiv (VB e R nR x y w h n) 1048576)) = costV (VB e R nR x y w h n) ∧ w32 (w64 (Int.tmod (VB e R nR x y w h n) 1048576)) = stepsV (VB e R nR x y w h n)) := by
  have h1 := VB_top hG hc hn
  generalize VB e R nR x y w h n = v at *
  unfold costV stepsV
  constructor
  · intro q
    have : v = -9 := by omega
    rw [cI_t this, cI_t this]; exact ⟨rfl, rfl⟩
  · intro q
    have : v ≠ -9 := by omega
    rw [cI_f this, cI_f this, Int.tdiv_eq_ediv_of_nonneg q, Int.tmod_eq_emod_of_nonneg q]
    refine ⟨?_, ?_⟩
    · rw [w64_id (by omega) (by omega), w32_id (by omega) (by omega)]
    · rw [w64_id (by omega) (by omega), w32_id (by omega) (by omega)]
theorem sc_cell {w h : Nat} (hs : isSc (w : Int) (h : Int)) : okCell eFr 0 0 w h := by
  obtain ⟨⟨h1, h2⟩, h3, h4⟩ := hs
  exact ⟨by omega, by omega, by omega, by omega, fun z => absurd (show false = true from z) (by decide)⟩
theorem c_X9_ways (hW : WF sh ν f s) (hG : okG nR R) (HX : IXg μ nR R) (H : IXt μ 213 B R nR) {n w h : Int} (k : ∀ μ' : Nat → Nat → Int, IXt μ' 213 B R nR → frSt 213 μ μ' → Q (some (vL (ansWays nR R n w h))) sh ν μ') : X mX9_ways 0 [(0, vR 0), (1, vI n), (2, vI w), (3, vI h)] [] sh ν μ 0 0 Q := by
  have k0 := k μ H ⟨fun _ _ _ => rfl, fun _ _ => rfl⟩
  unfold ansWays at k k0
  refine g_X9_ways_0 hW ⟨fun q1 => ⟨fun q2 => ?_, fun q2 => ?_⟩, fun q1 => ?_⟩
  · rw [cI_t q1, cI_t (show isSc w h from q2)] at k
    obtain ⟨nn, rfl⟩ : ∃ nn : Nat, n = nn := ⟨Int.toNat n, by omega⟩
    obtain ⟨ww, rfl⟩ : ∃ nn : Nat, w = nn := ⟨Int.toNat w, by omega⟩
    obtain ⟨hh, rfl⟩ : ∃ nn : Nat, h = nn := ⟨Int.toNat h, by omega⟩
    rw [Int.toNat_natCast, Int.toNat_natCast, Int.toNat_natCast] at k
    have hn8 : nn < 8 := by omega
    have hc := sc_cell q2
    refine c_X1_settle (B := B) hW mk_free hG HX (fun e => absurd e (by decide)) H hn8 (x := 0) (y := 0) hc (fun e => absurd e (by decide)) fun m r1 r2 r3 => ?_
    refine g_X9_ways_39 hW mk_free ?_
    rw [Int.toNat_natCast, rdO_in (slot_lt (clN_b (B := B) mk_free hc).1 hn8), r2.1]
    exact k m r1 r3
  · rw [cI_t q1, cI_f (show ¬ isSc w h from q2)] at k0; exact k0
  · rw [cI_f q1] at k0; exact k0
theorem c_X9_least (hW : WF sh ν f s) (hG : okG nR R) (HX : IXg μ nR R) (H : IXt μ 213 B R nR) {n w h : Int} (k : ∀ μ' : Nat → Nat → Int, IXt μ' 213 B R nR → frSt 213 μ μ' → Q (some (vI (ansLeast nR R n w h))) sh ν μ') : X mX9_least 0 [(0, vR 0), (1, vI n), (2, vI w), (3, vI h)] [] sh ν μ 0 0 Q := by
  have k0 := k μ H ⟨fun _ _ _ => rfl, fun _ _ => rfl⟩
  unfold ansLeast at k k0
  refine g_X9_least_0 hW ⟨fun q1 => ⟨fun q2 => ?_, fun q2 => ?_⟩, fun q1 => ?_⟩
  · rw [cI_t q1, cI_t (show isSc w h from q2)] at k
    obtain ⟨nn, rfl⟩ : ∃ nn : Nat, n = nn := ⟨Int.toNat n, by omega⟩
    obtain ⟨ww, rfl⟩ : ∃ nn : Nat, w = nn := ⟨Int.toNat w, by omega⟩
    obtain ⟨hh, rfl⟩ : ∃ nn : Nat, h = nn := ⟨Int.toNat h, by omega⟩
    rw [Int.toNat_natCast, Int.toNat_natCast, Int.toNat_natCast] at k
    have hn8 : nn < 8 := by omega
    have hc := sc_cell q2
    obtain ⟨v1, v2⟩ := VB_cost hG hc hn8
    refine c_X1_settle (B := B) hW mk_free hG HX (fun e => absurd e (by decide)) H hn8 (x := 0) (y := 0) hc (fun e => absurd e (by decide)) fun m r1 r2 r3 => ?_
    have hk := k m r1 r3
    refine g_X9_least_36 hW mk_free ?_
    refine g_X1_costOf_0 hW mk_free ?_
    rw [Int.toNat_natCast, rdO_in (slot_lt (clN_b (B := B) mk_free hc).1 hn8), r2.2.1, evc_free]
    refine ⟨fun q => ?_, fun q => ?_⟩
    · rw [(v2 q).1]; exact g_X9_least_39 hW hk
    · rw [(v1 q).1] at hk; exact g_X9_least_39 hW hk
  · rw [cI_t q1, cI_f (show ¬ isSc w h from q2)] at k0; exact k0
  · rw [cI_f q1] at k0; exact k0
/-- the board as a whole -/
theorem bd_all (hB : okB B) : ∃ W H : Nat, bw B = W ∧ bh B = H ∧ inB B 0 0 W H ∧ okCell (eBd B) 0 0 W H ∧ W ≤ 9 ∧ H ≤ 9 := by
  obtain ⟨⟨b1, b2⟩, ⟨b3, b4⟩, -⟩ := id hB
  have hi : inB B 0 0 (Int.toNat (bw B)) (Int.toNat (bh B)) := ⟨⟨by omega, by omega⟩, by omega, by omega⟩
  exact ⟨Int.toNat (bw B), Int.toNat (bh B), by omega, by omega, hi, inB_ok hB hi, by omega, by omega⟩
theorem c_X9_settleBoard (hW : WF sh ν f s) (hG : okG nR R) (HX : IXg μ nR R) (hB : okB B) (HB : IXb μ B) (H : IXt μ 231 B R nR) {W' H' : Nat} (eW : bw B = W') (eH : bh B = H') (hi : inB B 0 0 W' H')
    (k : ∀ m : Nat → Nat → Int, IXt m 231 B R nR → (m 246 (clN 231 0 0 W' H' * 8) = VW (eBd B) R nR 0 0 W' H' 0 ∧ m 247 (clN 231 0 0 W' H' * 8) = VB (eBd B) R nR 0 0 W' H' 0 ∧ m 248 (clN 231 0 0 W' H' * 8) = VP (eBd B) R nR 0 0 W' H' 0) → frSt 231 μ m → Q (some (vI (clN 231 0 0 W' H' * 8 : Nat))) sh ν m) : X mX9_settleBoard 0 [(0, vR 0)] [] sh ν μ 0 0 Q := by
  refine g_X9_settleBoard_0 hW ?_
  rw [HB.1, HB.2.1, eW, eH]
  refine c_X1_settle (B := B) hW mk_bound hG HX (fun _ => ⟨hB, HB⟩) H (n := 0) (by decide) (x := 0) (y := 0) (inB_ok hB hi) (fun _ => hi) fun m r1 r2 r3 => ?_
  refine g_X9_settleBoard_24 hW ?_
  exact k m r1 r2 r3
theorem slot0_lt (hB : okB B) {W' H' : Nat} (hi : inB B 0 0 W' H') : clN 231 0 0 W' H' * 8 < nsp 231 * nsp 231 * 8 := by
  have := (clN_b (a := 231) (B := B) mk_bound (inB_ok hB hi)).1
  exact slot_lt (k := 0) this (by decide)
theorem c_X9_parses (hW : WF sh ν f s) (hG : okG nR R) (HX : IXg μ nR R) (hB : okB B) (HB : IXb μ B) (H : IXt μ 231 B R nR) (k : ∀ μ' : Nat → Nat → Int, IXt μ' 231 B R nR → frSt 231 μ μ' → Q (some (vL (ansParses nR R B))) sh ν μ') : X mX9_parses 0 [(0, vR 0)] [] sh ν μ 0 0 Q := by
  obtain ⟨W', H', eW, eH, hi, -, -, -⟩ := bd_all hB
  refine g_X9_parses_0 hW ?_
  refine c_X9_settleBoard hW hG HX hB HB H eW eH hi fun m r1 r2 r3 => ?_
  refine g_X9_parses_8 hW mk_bound ?_
  have hk := k m r1 r3
  unfold ansParses at hk
  rw [eW, eH, Int.toNat_natCast, Int.toNat_natCast] at hk
  rw [Int.toNat_natCast, rdO_in (slot0_lt hB hi), show (231 + 15 : Nat) = 246 from rfl, r2.1]
  exact hk
theorem c_X9_best (hW : WF sh ν f s) (hG : okG nR R) (HX : IXg μ nR R) (hB : okB B) (HB : IXb μ B) (H : IXt μ 231 B R nR) (k : ∀ μ' : Nat → Nat → Int, IXt μ' 231 B R nR → frSt 231 μ μ' → Q (some (vI (ansBest nR R B))) sh ν μ') : X mX9_best 0 [(0, vR 0)] [] sh ν μ 0 0 Q := by
  obtain ⟨W', H', eW, eH, hi, hc, -, -⟩ := bd_all hB
  refine g_X9_best_0 hW ?_
  refine c_X9_settleBoard hW hG HX hB HB H eW eH hi fun m r1 r2 r3 => ?_
  refine g_X9_best_8 hW mk_bound ?_
  have hk := k m r1 r3
  unfold ansBest at hk
  rw [eW, eH, Int.toNat_natCast, Int.toNat_natCast] at hk
  obtain ⟨v1, v2⟩ := VB_cost hG hc (n := 0) (by decide)
  refine g_X1_costOf_0 hW mk_bound ?_
  rw [Int.toNat_natCast, rdO_in (slot0_lt hB hi), show (231 + 16 : Nat) = 247 from rfl, r2.2.1]
  refine ⟨fun q => ?_, fun q => ?_⟩
  · rw [(v2 q).1]; exact g_X9_best_11 hW hk
  · rw [(v1 q).1] at hk; exact g_X9_best_11 hW hk
theorem c_X9_stands (hW : WF sh ν f s) (hG : okG nR R) (HX : IXg μ nR R) (hB : okB B) (HB : IXb μ B) (H : IXt μ 231 B R nR) {n p w h : Int} (k : ∀ μ' : Nat → Nat → Int, IXt μ' 231 B R nR → frSt 231 μ μ' → Q (some (vL (ansStands nR R B n p w h))) sh ν μ') : X mX9_stands 0 [(0, vR 0), (1, vI n), (2, vI p), (3, vI w), (4, vI h)] [] sh ν μ 0 0 Q := by
  have k0 := k μ H ⟨fun _ _ _ => rfl, fun _ _ => rfl⟩
  unfold ansStands at k k0
  obtain ⟨⟨b1, b2⟩, ⟨b3, b4⟩, -⟩ := id hB
  refine g_X9_stands_0 hW ?_
  rw [HB.1, HB.2.1]
  refine ⟨fun q1 => ?_, fun q1 => ⟨fun q2 => ?_, fun q2 => ?_⟩⟩
  · rw [cI_f fun z => q1 z.1] at k0; exact k0
  · have q2' : isPl B p := q2
    rw [Int.tmod_eq_emod_of_nonneg q2.1, Int.tdiv_eq_ediv_of_nonneg q2.1, w32_id (x := p % 9) (by omega) (by omega), w32_id (x := p / 9) (by omega) (by omega), w32_id (x := bw B - p % 9) (by omega) (by omega), w32_id (x := bh B - p / 9) (by omega) (by omega)]
    rw [cI_t ⟨q1, q2'⟩] at k k0
    refine ⟨fun q3 => ?_, fun q3 => ⟨fun q4 => ?_, fun q4 => ?_⟩⟩
    · rw [cI_f fun z => q3 z.1] at k0; exact k0
    · rw [cI_t ⟨q3, q4⟩] at k
      obtain ⟨nn, rfl⟩ : ∃ nn : Nat, n = nn := ⟨Int.toNat n, by omega⟩
      obtain ⟨ww, rfl⟩ : ∃ nn : Nat, w = nn := ⟨Int.toNat w, by omega⟩
      obtain ⟨hh, rfl⟩ : ∃ nn : Nat, h = nn := ⟨Int.toNat h, by omega⟩
      obtain ⟨xx, hxx⟩ : ∃ nn : Nat, p % 9 = nn := ⟨Int.toNat (p % 9), by omega⟩
      obtain ⟨yy, hyy⟩ : ∃ nn : Nat, p / 9 = nn := ⟨Int.toNat (p / 9), by omega⟩
      have hi : inB B xx yy ww hh := ⟨⟨by omega, by omega⟩, by omega, by omega⟩
      have hc := inB_ok hB hi
      rw [hxx, hyy] at k ⊢
      rw [Int.toNat_natCast, Int.toNat_natCast, Int.toNat_natCast, Int.toNat_natCast, Int.toNat_natCast] at k
      have hn8 : nn < 8 := by omega
      refine c_X1_settle (B := B) hW mk_bound hG HX (fun _ => ⟨hB, HB⟩) H hn8 hc (fun _ => hi) fun m r1 r2 r3 => ?_
      refine g_X9_stands_94 hW mk_bound ?_
      rw [Int.toNat_natCast, rdO_in (slot_lt (clN_b (B := B) mk_bound hc).1 hn8), r2.1]
      exact k m r1 r3
    · rw [cI_f fun z => q4 z.2] at k0; exact k0
  · rw [cI_f fun z => q2 z.2] at k0; exact k0
end XW
