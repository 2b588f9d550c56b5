/-! the board, in the reference; count, fault -/
theorem tk_ar {x y : Nat} {W H : Int} (hx : x < Int.toNat W) (hy : y < Int.toNat H) (hw : W ≤ 9) (hh : H ≤ 9) : ∃ a9 a20 : Nat, w32 (w32 (9 * (y : Int)) + (x : Int)) = (a9 : Nat) ∧ w32 (w32 (20 * (y : Int)) + (x : Int)) = (a20 : Nat) ∧ a20 % 20 = x ∧ a20 / 20 = y ∧ a9 % 9 = x ∧ a9 / 9 = y ∧ a20 < 400 ∧ a9 < 81 ∧ a20 = a9 % 9 + 20 * (a9 / 9) ∧ (0 ≤ (a9 : Int) ∧ (a9 : Int) < (81 : Nat)) ∧ (0 ≤ (a20 : Int) ∧ (a20 : Int) < (400 : Nat)) ∧ (x : Int) < W ∧ (y : Int) < H ∧ (y < y ∨ y = y ∧ x < x + 1) ∧ w32 ((x : Int) + 1) = ((x + 1 : Nat) : Int) ∧ ∀ p : Nat, p ≠ a9 → ((p / 9 < y ∨ p / 9 = y ∧ p % 9 < x + 1) ↔ (p / 9 < y ∨ p / 9 = y ∧ p % 9 < x)) := by
  refine ⟨9 * y + x, 20 * y + x, ?_, ?_, by omega, by omega, by omega, by omega, by omega, by omega, by omega, by omega, by omega, by omega, by omega, by omega, wi1 (by omega), fun p hp => by omega⟩
  · rw [w32_id (x := 9 * (y : Int)) (by omega) (by omega), w32_id (by omega) (by omega)]; omega
  · rw [w32_id (x := 20 * (y : Int)) (by omega) (by omega), w32_id (by omega) (by omega)]; omega
section MB
variable {sh : List (Nat × Nat)} {ν : Nat → Nat → Option Nat} {μ : Nat → Nat → Int} {f s : Nat} {Q : xQ} {n : Nat} {R : GR} {F : FR} {B : BD}
/-- what a call that changes the board leaves, in the reference -/
def frB (μ μ' : Nat → Nat → Int) : Prop := (∀ b, b ≠ 265 → b ≠ 292 → μ' b = μ b) ∧ ∀ j, j ≠ 35 → j ≠ 36 → j ≠ 50 → μ' 265 j = μ 265 j
theorem c_X10_boards (hW : WF sh ν f s) {w h : Int} (k : ∀ μ' : Nat → Nat → Int, IMb μ' (newB w h) → frB μ μ' → μ' 265 50 = 0 → Q none sh ν μ') : X mX10_boards 0 [(0, vR 265), (1, vI w), (2, vI h)] [] sh ν μ 0 0 Q := by
  refine g_X10_boards_0 hW ?_
  have key := loop_up 81 (fun (i : Nat) (m : Nat → Nat → Int) => (∀ b, b ≠ 292 → m b = up (up (up μ 265 35 w) 265 36 h) 265 50 0 b) ∧ ∀ p, p < i → m 292 p = 0) (fun i m => X mX10_boards 17 [(0, vR 265), (3, vI (i : Nat))] [] sh ν m 0 0 Q) ?_ ?_ 0 (up (up (up μ 265 35 w) 265 36 h) 265 50 0) (Nat.zero_le _) ⟨fun _ _ => rfl, fun p hp => absurd hp (Nat.not_lt_zero p)⟩
  · exact key
  · rintro m ⟨g1, g2⟩
    refine g_X10_boards_17 hW ⟨fun _ => k m ⟨?_, ?_, g2⟩ ⟨fun b b0 b1 => ?_, fun j j0 j1 j2 => ?_⟩ ?_, fun q => absurd q (by omega)⟩
    · rw [g1 265 (by omega)]; simp (disch := omega) only [up_s, up_k']; rfl
    · rw [g1 265 (by omega)]; simp (disch := omega) only [up_s, up_k']; rfl
    · rw [g1 b b1]; simp (disch := omega) only [up_o']
    · rw [g1 265 (by omega)]; simp (disch := omega) only [up_k']
    · rw [g1 265 (by omega), up_s]
  · rintro i m hi ⟨g1, g2⟩ ih
    refine g_X10_boards_17 hW ⟨fun q => absurd q (by omega), fun _ => ⟨by omega, ?_⟩⟩
    rw [Int.toNat_natCast, wi1 (by omega)]
    refine ih _ ⟨fun b hb => by rw [up_o' hb]; exact g1 b hb, fun p hp => ?_⟩
    by_cases e : p = i
    · rw [e, up_s]
    · rw [up_k' e]; exact g2 p (by omega)
theorem c_X10_board (hW : WF sh ν f s) {w h : Int} (k0 : ¬ isBs w h → Q (some (vI (-2))) sh ν μ)
    (k1 : isBs w h → ∀ μ' : Nat → Nat → Int, IMb μ' (newB w h) → frB μ μ' → μ' 265 50 = 0 → Q (some (vI 1)) sh ν μ') : X mX10_board 0 [(0, vR 265), (1, vI w), (2, vI h)] [] sh ν μ 0 0 Q := by
  refine g_X10_board_0 hW ⟨fun q => k0 fun z => q z.1, fun q1 => ⟨fun q2 => ?_, fun q => k0 fun z => q z.2⟩⟩
  exact c_X10_boards hW fun m g1 g2 g3 => g_X10_board_33 hW (k1 ⟨q1, q2⟩ m g1 g2 g3)
theorem c_X10_put_ (hW : WF sh ν f s) (H : IMb μ B) {p l : Int} (k0 : ¬ canP B p l → Q (some (vI (ansPut B p l))) sh ν μ)
    (k1 : canP B p l → ∀ μ' : Nat → Nat → Int, IMb μ' (putB B p l) → frB μ μ' → μ' 265 50 = 0 → Q (some (vI (ansPut B p l))) sh ν μ') : X mX10_put_ 0 [(0, vR 265), (1, vI p), (2, vI l)] [] sh ν μ 0 0 Q := by
  unfold ansPut at k0 k1
  obtain ⟨h1, h2, h3⟩ := H
  refine g_X10_put__0 hW ?_
  rw [h1, h2]
  refine ⟨fun q1 => ⟨fun q2 => ⟨by omega, by omega, ?_⟩, fun q => ?_⟩, fun q => ?_⟩
  · have hc : canP B p l := ⟨⟨by omega, by omega, by omega, by omega⟩, q2⟩
    have k := k1 hc
    rw [cI_t hc.1, cI_t q2] at k
    rw [h3 _ (by omega)]
    refine k _ ⟨?_, ?_, fun j hj => ?_⟩ ⟨fun b b0 b1 => by simp (disch := omega) only [up_o'], fun j j0 j1 j2 => by simp (disch := omega) only [up_a', up_k']⟩ (up_s ..)
    · simp (disch := omega) only [up_a', up_k']; exact h1
    · simp (disch := omega) only [up_a', up_k']; exact h2
    · show _ = if j = Int.toNat p then l else bl B j
      by_cases e : j = Int.toNat p
      · rw [if_pos e, e]; simp (disch := omega) only [up_s, up_a']
      · rw [if_neg e]; simp (disch := omega) only [up_a', up_k']; exact h3 j hj
  · have k := k0 fun z => q z.2
    rw [cI_t (show isPl B p from ⟨by omega, by omega, by omega, by omega⟩), cI_f q] at k; exact k
  · have hn : ¬ isPl B p := fun z => q ⟨z.1, by have := z.2.1; omega, z.2.2.1, z.2.2.2⟩
    have k := k0 fun z => hn z.1
    rw [cI_f hn] at k; exact k
theorem c_X10_take (hW : WF sh ν f s) (hF : okF F) (HF : IMf μ F) (k0 : ¬ canT F → Q (some (vI (-3))) sh ν μ)
    (k1 : canT F → ∀ μ' : Nat → Nat → Int, IMb μ' (takeB F) → frB μ μ' → μ' 265 50 = 0 → Q (some (vI 1)) sh ν μ') : X mX10_take 0 [(0, vR 265)] [] sh ν μ 0 0 Q := by
  have h20 := okF_20 hF
  refine g_X10_take_0 hW ?_
  rw [HF.1.1, HF.1.2.1]
  refine ⟨fun q => k0 fun z => z.1 q, fun q1 => ⟨fun q => k0 fun z => by have := z.2.1; omega, fun q2 => ⟨fun q3 => ?_, fun q => k0 fun z => by have := z.2.2; omega⟩⟩⟩
  have hc : canT F := ⟨q1, q2, q3⟩
  refine c_X10_boards hW fun m0 g1 g2 g3 => ?_
  refine g_X10_take_40 hW ?_
  have key := loop_up (Int.toNat (fH F)) (fun (y : Nat) (m : Nat → Nat → Int) => (∀ b, b ≠ 265 → b ≠ 292 → m b = μ b) ∧ ((∀ j, j ≠ 50 → m 265 j = m0 265 j) ∧ m 265 50 = 0) ∧ ∀ p, p < 81 → m 292 p = cI (((p % 9 : Nat) : Int) < fW F ∧ p / 9 < y) (fV F (p % 9 + 20 * (p / 9))) 0) (fun y m => X mX10_take 42 [(0, vR 265), (1, vI (y : Nat))] [] sh ν m 0 0 Q) ?_ ?_ 0 m0 (Nat.zero_le _) ⟨g2.1, ⟨fun _ _ => rfl, g3⟩, fun p hp => by rw [cI_f (fun z => by omega)]; exact g1.2.2 p hp⟩
  · exact key
  · rintro m ⟨u1, ⟨u2, u2'⟩, u3⟩
    refine g_X10_take_42 hW ?_
    rw [show m 265 19 = fH F by rw [u2 19 (by omega), g2.2 19 (by omega) (by omega) (by omega)]; exact HF.1.2.1]
    refine ⟨fun _ => k1 hc m ⟨?_, ?_, fun p hp => ?_⟩ ⟨u1, fun j j0 j1 j2 => by rw [u2 j j2]; exact g2.2 j j0 j1 j2⟩ u2', fun q => absurd q (by omega)⟩
    · rw [u2 35 (by omega)]; exact g1.1
    · rw [u2 36 (by omega)]; exact g1.2.1
    · rw [u3 p hp]
      show _ = cI _ _ _
      by_cases q : ((p % 9 : Nat) : Int) < fW F ∧ ((p / 9 : Nat) : Int) < fH F
      · rw [cI_t q, cI_t (by omega)]
      · rw [cI_f q, cI_f (by omega)]
  · rintro y m hy ⟨u1, ⟨u2, u2'⟩, u3⟩ ih
    refine g_X10_take_42 hW ?_
    rw [show m 265 19 = fH F by rw [u2 19 (by omega), g2.2 19 (by omega) (by omega) (by omega)]; exact HF.1.2.1]
    refine ⟨fun q => absurd q (by omega), fun _ => ?_⟩
    have key2 := loop_up (Int.toNat (fW F)) (fun (x : Nat) (m' : Nat → Nat → Int) => (∀ b, b ≠ 265 → b ≠ 292 → m' b = m b) ∧ ((∀ j, j ≠ 50 → m' 265 j = m 265 j) ∧ m' 265 50 = 0) ∧ ∀ p, p < 81 → m' 292 p = cI (((p % 9 : Nat) : Int) < fW F ∧ (p / 9 < y ∨ p / 9 = y ∧ p % 9 < x)) (fV F (p % 9 + 20 * (p / 9))) 0) (fun x m' => X mX10_take 52 [(0, vR 265), (1, vI (y : Nat)), (2, vI (x : Nat))] [] sh ν m' 0 0 Q) ?_ ?_ 0 m (Nat.zero_le _) ⟨fun _ _ _ => rfl, ⟨fun _ _ => rfl, u2'⟩, fun p hp => ?_⟩
    · exact key2
    · rintro m' ⟨v1, ⟨v2, v2'⟩, v3⟩
      refine g_X10_take_52 hW ?_
      rw [show m' 265 18 = fW F by rw [v2 18 (by omega), u2 18 (by omega), g2.2 18 (by omega) (by omega) (by omega)]; exact HF.1.1, wi1 (by omega)]
      refine ⟨fun _ => ih m' ⟨fun b b0 b1 => by rw [v1 b b0 b1]; exact u1 b b0 b1, ⟨fun j hj => by rw [v2 j hj]; exact u2 j hj, v2'⟩, fun p hp => ?_⟩, fun q => absurd q (by omega)⟩
      rw [v3 p hp]
      by_cases q : ((p % 9 : Nat) : Int) < fW F ∧ p / 9 < y + 1
      · rw [cI_t q, cI_t (by omega)]
      · rw [cI_f q, cI_f (by omega)]
    · rintro x m' hx ⟨v1, ⟨v2, v2'⟩, v3⟩ ih2
      obtain ⟨a9, a20, e1, e2, d1, d2, d3, d4, l20, l9, e20, i9, i20, ix, iy, it, iw, ip⟩ := tk_ar hx hy q2 q3
      have hin : inF F a20 := ⟨by rw [d1]; exact ix, by rw [d2]; exact iy⟩
      have e3 : m' 282 a20 = fV F a20 := by rw [v1 282 (by decide) (by decide), u1 282 (by decide) (by decide)]; exact HF.2.2 _ l20 hin
      have e18 : m' 265 18 = fW F := by rw [v2 18 (by decide), u2 18 (by decide), g2.2 18 (by decide) (by decide) (by decide)]; exact HF.1.1
      refine g_X10_take_52 hW ?_
      rw [e18, iw, e1, e2, Int.toNat_natCast, Int.toNat_natCast, e3]
      refine ⟨fun q => absurd q (Int.not_le.2 ix), fun _ => ⟨i20, i9, ?_⟩⟩
      refine ih2 _ ⟨fun b b0 b1 => ?_, ⟨fun j hj => ?_, up_s _ _ _ _⟩, fun p hp => ?_⟩
      · rw [up_o' b0, up_o' b1]; exact v1 b b0 b1
      · rw [up_k' hj, up_a' (show 265 ≠ 292 by decide)]; exact v2 j hj
      · rw [up_a' (show 292 ≠ 265 by decide)]
        by_cases e : p = a9
        · rw [e, d3, d4, cI_t ⟨ix, it⟩, up_s, e20, d3, d4]
        · rw [up_k' e, v3 p hp]
          by_cases q : ((p % 9 : Nat) : Int) < fW F ∧ (p / 9 < y ∨ p / 9 = y ∧ p % 9 < x + 1)
          · rw [cI_t q, cI_t ⟨q.1, (ip p e).1 q.2⟩]
          · rw [cI_f q, cI_f fun z => q ⟨z.1, (ip p e).2 z.2⟩]
    · rw [u3 p hp]
      by_cases q : ((p % 9 : Nat) : Int) < fW F ∧ p / 9 < y
      · rw [cI_t q, cI_t (by omega)]
      · rw [cI_f q, cI_f (by omega)]
def ansCount (n cn : Nat) (B : BD) (F : FR) (x : Int) : Int := if x = 0 then n else if x = 1 then cn else if x = 2 then bw B else if x = 3 then bh B else if x = 4 then fW F else if x = 5 then fH F else -2
theorem c_X9_count (hW : WF sh ν f s) {cn : Nat} {cp : Nat → PD} (HX : IXg μ n R) (HC : IXc μ cn cp) (HB : IXb μ B) (HF : IXf μ f F) {x : Int} (k : Q (some (vI (ansCount n cn B F x))) sh ν μ) : X mX9_count 0 [(0, vR 0), (1, vI x)] [] sh ν μ 0 0 Q := by
  unfold ansCount at k
  refine g_X9_count_0 hW ?_
  rw [HX.1, HC.1, HB.1, HB.2.1, HF.1.1, HF.1.2.1]
  refine ⟨fun q => ?_, fun q => ?_, fun q => ?_, fun q => ?_, fun q => ?_, fun q => ?_, fun q => ?_⟩
  · subst q; exact k
  · subst q; exact k
  · subst q; exact k
  · subst q; exact k
  · subst q; exact k
  · subst q; exact k
  · rw [if_neg (by omega), if_neg (by omega), if_neg (by omega), if_neg (by omega), if_neg (by omega), if_neg (by omega)] at k; exact k
theorem c_X10_count_ (hW : WF sh ν f s) {cn : Nat} {cp : Nat → PD} (HX : IMg μ n R) (HC : IMc μ cn cp) (HB : IMb μ B) (HF : IMf μ F) {x : Int} (k : Q (some (vI (ansCount n cn B F x))) sh ν μ) : X mX10_count_ 0 [(0, vR 265), (1, vI x)] [] sh ν μ 0 0 Q := by
  unfold ansCount at k
  refine g_X10_count__0 hW ?_
  rw [HX.1, HC.1, HB.1, HB.2.1, HF.1.1, HF.1.2.1]
  refine ⟨fun q => ?_, fun q => ?_, fun q => ?_, fun q => ?_, fun q => ?_, fun q => ?_, fun q => ?_⟩
  · subst q; exact k
  · subst q; exact k
  · subst q; exact k
  · subst q; exact k
  · subst q; exact k
  · subst q; exact k
  · rw [if_neg (by omega), if_neg (by omega), if_neg (by omega), if_neg (by omega), if_neg (by omega), if_neg (by omega)] at k; exact k
theorem c_X9_fault (hW : WF sh ν f s) {v : Int} (e : μ 0 8 = v) (k : Q (some (vI v)) sh ν μ) : X mX9_fault 0 [(0, vR 0)] [] sh ν μ 0 0 Q := by
  subst e; exact g_X9_fault_0 hW k
theorem c_X10_fault (hW : WF sh ν f s) {v : Int} (e : μ 265 26 = v) (k : Q (some (vI v)) sh ν μ) : X mX10_fault 0 [(0, vR 265)] [] sh ν μ 0 0 Q := by
  subst e; exact g_X10_fault_0 hW k
end MB
