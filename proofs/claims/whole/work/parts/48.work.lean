/-! the reference's work on a cell: the ways -/
theorem leadF_b {R : GR} {w h : Nat} (r n k : Nat) : 0 ≤ leadF R w h r n k ∧ leadF R w h r n k ≤ r := by
  induction r with
  | zero => exact ⟨Int.le_refl 0, Int.le_refl 0⟩
  | succ r ih =>
    show 0 ≤ leadF R w h r n k + cI _ 1 0 ∧ leadF R w h r n k + cI _ 1 0 ≤ _
    by_cases q : rn (R r) = n ∧ tieP (R r) w h k
    · rw [cI_t q]; omega
    · rw [cI_f q]; omega
theorem ctrW_ok {e : EV} {V : WV} {d : RD} {x y w h : Nat} (hV : holdsF d w h → pcN d w h ≠ 1 → ∀ i, i < pcN d w h → wOK (pcV V d x y w h i)) : wOK (ctrW e V d x y w h) := by
  have ok1 : wOK 1 := Or.inr ⟨by decide, by decide⟩
  unfold ctrW
  by_cases g : holdsF d w h
  · rw [cI_t g]
    by_cases hk : rk d = 0
    · rw [cI_t hk]
      by_cases q : okL e x y w h (rl d)
      · rw [cI_t q]; exact ok1
      · rw [cI_f q]; exact wOK_0
    · rw [cI_f hk]
      by_cases hN : pcN d w h = 1
      · rw [cI_t hN]; exact wOK_0
      · rw [cI_f hN]
        have key : ∀ i, i ≤ pcN d w h → wOK (prodW V d x y w h i) := by
          intro i
          induction i with
          | zero => exact fun _ => ok1
          | succ i ih => exact fun hi => wOK_mult (ih (by omega)) (hV g hN i (by omega))
        exact key _ (Nat.le_refl _)
  · rw [cI_f g]; exact wOK_0
theorem baseF_ok {e : EV} {V : WV} {R : GR} {x y w h : Nat} {nR : Nat} (hV : ∀ r, r < nR → holdsF (R r) w h → pcN (R r) w h ≠ 1 → ∀ i, i < pcN (R r) w h → wOK (pcV V (R r) x y w h i)) (r : Nat) (hr : r ≤ nR) (n : Nat) : wOK (baseF e V R x y w h r n) := by
  induction r with
  | zero => exact wOK_0
  | succ r ih =>
    refine wOK_plus (ih (by omega)) ?_
    by_cases q : rn (R r) = n
    · rw [cI_t q]; exact ctrW_ok (hV r (by omega))
    · rw [cI_f q]; exact wOK_0
section WO
variable {sh : List (Nat × Nat)} {ν : Nat → Nat → Option Nat} {μ : Nat → Nat → Int} {f s : Nat} {Q : xQ} {nR : Nat} {R : GR}
/-- what the ways of a cell leave -/
def frV (p : Nat) (μ μ' : Nat → Nat → Int) : Prop := (∀ b, b ≠ 265 → ¬ (278 ≤ b ∧ b ≤ 280) → b ≠ 293 → ¬ (296 ≤ b ∧ b ≤ 300) → μ' b = μ b) ∧ (∀ j, j ≠ 14 → μ' 265 j = μ 265 j) ∧ ∀ j, ¬ (p ≤ j ∧ j < p + 8) → μ' 293 j = μ 293 j ∧ μ' 296 j = μ 296 j
theorem c_X10_work1 (hW : WF sh ν f s) {e : EV} {V : WV} (hG : okG nR R) (HM : IMg μ nR R) {x y w h : Nat} (hc : okCell e x y w h) (he : μ 265 42 = eI e) (hB : e.1 = true → ∀ p, p < 81 → μ 292 p = e.2 p)
    (hV : ∀ r, r < nR → holdsF (R r) w h → pcN (R r) w h ≠ 1 → ∀ i, i < pcN (R r) w h → μ 293 (plN e (Int.toNat (pcX (R r) x w h i)) (Int.toNat (pcY (R r) y w h i)) (Int.toNat (pcW (R r) w h i)) (Int.toNat (pcH (R r) w h i)) (Int.toNat (pcNm (R r) i))) = pcV V (R r) x y w h i ∧ wOK (pcV V (R r) x y w h i))
    (k : ∀ μ' : Nat → Nat → Int, (∀ n, n < 8 → μ' 293 (plN e x y w h n) = wS (leadF R w h nR) (baseF e V R x y w h nR) n) → (∀ n, n < 8 → μ' 296 (plN e x y w h n) = -9) → frV (plN e x y w h 0) μ μ' → X mX10_work 106 [(0, vR 265), (1, vI (x : Nat)), (2, vI (y : Nat)), (3, vI (w : Nat)), (4, vI (h : Nat)), (5, vI (plN e x y w h 0 : Nat))] [] sh ν μ' 0 0 Q) :
    X mX10_work 0 [(0, vR 265), (1, vI (x : Nat)), (2, vI (y : Nat)), (3, vI (w : Nat)), (4, vI (h : Nat))] [] sh ν μ 0 0 Q := by
  have h40 := hG.1
  obtain ⟨c1, c2, c3, c4, c5⟩ := id hc
  obtain ⟨z1, -, z3⟩ := plN_b (n := 0) hc (by decide)
  have epl : plF (eI e) x y w h = (plN e x y w h 0 : Nat) := z1
  have epn : ∀ n, plN e x y w h n = plN e x y w h 0 + n := fun n => rfl
  generalize hp : plN e x y w h 0 = p at z3 epl epn k
  have pn : ∀ n : Nat, n < 8 → w32 ((p : Int) + (n : Int)) = ((p + n : Nat) : Int) := fun n hn => by rw [w32_id (by omega) (by omega)]; omega
  have pI : ∀ n : Nat, n < 8 → 0 ≤ ((p + n : Nat) : Int) ∧ ((p + n : Nat) : Int) < (55688 : Nat) := fun n hn => by omega
  have hVok : ∀ r, r < nR → holdsF (R r) w h → pcN (R r) w h ≠ 1 → ∀ i, i < pcN (R r) w h → wOK (pcV V (R r) x y w h i) := fun r hr g hN i hi => (hV r hr g hN i hi).2
  -- the rules are counted
  have h74 : ∀ m1 : Nat → Nat → Int, (∀ n, n < 8 → m1 297 n = 0) → (∀ j, j < 64 → m1 298 j = 0) → (∀ n, n < 8 → m1 296 (p + n) = -9) → (∀ j, ¬ (p ≤ j ∧ j < p + 8) → m1 296 j = μ 296 j) → (∀ b, b ≠ 296 → b ≠ 297 → b ≠ 298 → m1 b = μ b) → X mX10_work 74 [(0, vR 265), (1, vI (x : Nat)), (2, vI (y : Nat)), (3, vI (w : Nat)), (4, vI (h : Nat)), (5, vI (p : Nat)), (6, vI 0)] [] sh ν m1 0 0 Q := by
    intro m1 y1 y2 y3 y4 y5
    have key := loop_up nR (fun (r : Nat) (m : Nat → Nat → Int) => (∀ n, n < 8 → m 297 n = baseF e V R x y w h r n) ∧ (∀ n k, n < 8 → k < 8 → m 298 (8 * n + k) = leadF R w h r n k) ∧ (∀ b, b ≠ 265 → ¬ (278 ≤ b ∧ b ≤ 280) → b ≠ 297 → b ≠ 298 → m b = m1 b) ∧ ∀ j, j ≠ 14 → m 265 j = m1 265 j) (fun r m => X mX10_work 74 [(0, vR 265), (1, vI (x : Nat)), (2, vI (y : Nat)), (3, vI (w : Nat)), (4, vI (h : Nat)), (5, vI (p : Nat)), (6, vI (r : Nat))] [] sh ν m 0 0 Q) ?_ ?_ 0 m1 (Nat.zero_le _) ⟨y1, fun n k hn hk => y2 _ (nk88 hn hk).2.2, fun _ _ _ _ _ => rfl, fun _ _ => rfl⟩
    · exact key
    · rintro m ⟨g1, g2, g3, g4⟩
      have e0 : m 265 0 = nR := by rw [g4 0 (by decide), y5 265 (by decide) (by decide) (by decide)]; exact HM.1
      refine g_X10_work_74 hW ?_
      rw [e0]
      refine ⟨fun _ => ?_, fun q => absurd q (by omega)⟩
      refine c_X10_sum hW (L := leadF R w h nR) (b := baseF e V R x y w h nR) ⟨g1, g2⟩ (fun n _ => baseF_ok hVok nR (Nat.le_refl _) n) (fun n k => by have := leadF_b (R := R) (w := w) (h := h) nR n k; omega) z3 fun μ' t1 t2 t3 => ?_
      refine k μ' (fun n hn => by rw [epn]; exact t1 n hn) (fun n hn => by rw [epn, t3 296 (by decide) (by decide) (by decide), g3 296 (by decide) (by decide) (by decide) (by decide)]; exact y3 n hn) ⟨fun b b0 b1 b2 b3 => ?_, fun j hj => ?_, fun j hj => ⟨?_, ?_⟩⟩
      · rw [t3 b b2 (by omega) (by omega), g3 b b0 b1 (by omega) (by omega), y5 b (by omega) (by omega) (by omega)]
      · rw [t3 265 (by decide) (by decide) (by decide), g4 j hj, y5 265 (by decide) (by decide) (by decide)]
      · rw [t2 j hj, g3 293 (by decide) (by decide) (by decide) (by decide), y5 293 (by decide) (by decide) (by decide)]
      · rw [t3 296 (by decide) (by decide) (by decide), g3 296 (by decide) (by decide) (by decide) (by decide)]; exact y4 j hj
    · rintro r m hr ⟨g1, g2, g3, g4⟩ ih
      have e0 : m 265 0 = nR := by rw [g4 0 (by decide), y5 265 (by decide) (by decide) (by decide)]; exact HM.1
      have HM' : IMg m nR R := IMg_congr (by rw [e0]; exact HM.1.symm) (fun b b0 b1 => by rw [g3 b (by omega) (by omega) (by omega) (by omega), y5 b (by omega) (by omega) (by omega)]) HM
      refine g_X10_work_74 hW ?_
      rw [e0]
      refine ⟨fun q => absurd q (by omega), fun _ => ?_⟩
      refine c_X10_count hW (e := e) (V := V) (by omega) (HM'.2 r hr) (hG.2 r hr) hc (by rw [g4 42 (by decide), y5 265 (by decide) (by decide) (by decide)]; exact he) (fun z p hp => by rw [g3 292 (by decide) (by decide) (by decide) (by decide), y5 292 (by decide) (by decide) (by decide)]; exact hB z p hp) (fun g hN i hi => by rw [g3 293 (by decide) (by decide) (by decide) (by decide), y5 293 (by decide) (by decide) (by decide)]; exact hV r hr g hN i hi) (fun n hn => by rw [g1 n hn]; exact baseF_ok hVok r (by omega) n) (fun n k hn hk => by rw [g2 n k hn hk]; have := leadF_b (R := R) (w := w) (h := h) r n k; omega) fun μ' t1 t2 t3 => ?_
      refine g_X10_work_94 hW ?_
      rw [wi1 (by omega)]
      refine ih μ' ⟨fun n hn => by rw [t1 n hn, g1 n hn]; rfl, fun n k hn hk => by rw [t2 n k hn hk, g2 n k hn hk]; rfl, fun b b0 b1 b2 b3 => by rw [t3.1 b b0 b1 b2 b3]; exact g3 b b0 b1 b2 b3, fun j hj => by rw [t3.2 j hj]; exact g4 j hj⟩
  have h50 : ∀ m1 : Nat → Nat → Int, (∀ n, n < 8 → m1 297 n = 0) → (∀ n, n < 8 → m1 296 (p + n) = -9) → (∀ j, ¬ (p ≤ j ∧ j < p + 8) → m1 296 j = μ 296 j) → (∀ b, b ≠ 296 → b ≠ 297 → m1 b = μ b) → X mX10_work 50 [(0, vR 265), (1, vI (x : Nat)), (2, vI (y : Nat)), (3, vI (w : Nat)), (4, vI (h : Nat)), (5, vI (p : Nat)), (6, vI 0)] [] sh ν m1 0 0 Q := by
    intro m1 y1 y3 y4 y5
    have key := loop_up 64 (fun (i : Nat) (m : Nat → Nat → Int) => (∀ j, j < i → m 298 j = 0) ∧ ∀ b, b ≠ 298 → m b = m1 b) (fun i m => X mX10_work 50 [(0, vR 265), (1, vI (x : Nat)), (2, vI (y : Nat)), (3, vI (w : Nat)), (4, vI (h : Nat)), (5, vI (p : Nat)), (6, vI (i : Nat))] [] sh ν m 0 0 Q) ?_ ?_ 0 m1 (Nat.zero_le _) ⟨fun j hj => absurd hj (Nat.not_lt_zero j), fun _ _ => rfl⟩
    · exact key
    · rintro m ⟨g1, g2⟩
      exact g_X10_work_50 hW ⟨fun _ => h74 m (fun n hn => by rw [g2 297 (by decide)]; exact y1 n hn) g1 (fun n hn => by rw [g2 296 (by decide)]; exact y3 n hn) (fun j hj => by rw [g2 296 (by decide)]; exact y4 j hj) (fun b b0 b1 b2 => by rw [g2 b b2]; exact y5 b b0 b1), fun q => absurd q (by omega)⟩
    · rintro i m hi ⟨g1, g2⟩ ih
      refine g_X10_work_50 hW ⟨fun q => absurd q (by omega), fun _ => ⟨tI hi, ?_⟩⟩
      rw [Int.toNat_natCast, wi1 (by omega)]
      refine ih _ ⟨fun j hj => ?_, fun b hb => by rw [up_o' hb]; exact g2 b hb⟩
      by_cases q : j = i
      · rw [q, up_s]
      · rw [up_k' q]; exact g1 j (by omega)
  refine g_X10_work_0 hW ?_
  rw [he, epl]
  refine ⟨by omega, by omega, by omega, by omega, ?_⟩
  have key := loop_up 8 (fun (i : Nat) (m : Nat → Nat → Int) => (∀ n, n < i → m 297 n = 0 ∧ m 296 (p + n) = -9) ∧ (∀ j, ¬ (p ≤ j ∧ j < p + 8) → m 296 j = μ 296 j) ∧ ∀ b, b ≠ 296 → b ≠ 297 → m b = μ b) (fun i m => X mX10_work 14 [(0, vR 265), (1, vI (x : Nat)), (2, vI (y : Nat)), (3, vI (w : Nat)), (4, vI (h : Nat)), (5, vI (p : Nat)), (6, vI (i : Nat))] [] sh ν m 0 0 Q) ?_ ?_ 0 μ (Nat.zero_le _) ⟨fun j hj => absurd hj (Nat.not_lt_zero j), fun _ _ => rfl, fun _ _ _ => rfl⟩
  · exact key
  · rintro m ⟨g1, g2, g3⟩
    exact g_X10_work_14 hW ⟨fun _ => h50 m (fun n hn => (g1 n hn).1) (fun n hn => (g1 n hn).2) g2 g3, fun q => absurd q (by omega)⟩
  · rintro i m hi ⟨g1, g2, g3⟩ ih
    refine g_X10_work_14 hW ⟨fun q => absurd q (by omega), fun _ => ?_⟩
    rw [pn i hi, Int.toNat_natCast, Int.toNat_natCast, wi1 (by omega)]
    refine ⟨tI hi, pI i hi, ih _ ⟨fun n hn => ?_, fun j hj => ?_, fun b b0 b1 => by rw [up_o' b0, up_o' b1]; exact g3 b b0 b1⟩⟩
    · by_cases q : n = i
      · rw [q, up_s, up_a' (show 297 ≠ 296 by decide), up_s]; exact ⟨rfl, rfl⟩
      · rw [up_k' (show p + n ≠ p + i by omega), up_a' (show 297 ≠ 296 by decide), up_k' q, up_a' (show 296 ≠ 297 by decide)]
        exact g1 n (by omega)
    · rw [up_k' (show j ≠ p + i by omega), up_a' (show 296 ≠ 297 by decide)]; exact g2 j hj
end WO
