theorem X.nrm {M : xM} {pc pc' : Nat} {ls ls' : List (Nat × xV)} {st st' : List xV} {sh : List (Nat × Nat)} {ν : Nat → Nat → Option Nat} {μ : Nat → Nat → Int} {k n k' n' : Nat} {Q : xQ} (h1 : pc = pc') (h2 : ls = ls') (h3 : st = st') (h4 : k = k') (h5 : n = n') (K : X M pc' ls' st' sh ν μ k' n' Q) : X M pc ls st sh ν μ k n Q := by
  subst h1; subst h2; subst h3; subst h4; subst h5; exact K
/-- a truth as a number -/
def bI (p : Prop) [Decidable p] : Int := if p then 1 else 0
theorem bI_t {p : Prop} [Decidable p] (h : p) : bI p = 1 := if_pos h
theorem bI_f {p : Prop} [Decidable p] (h : ¬ p) : bI p = 0 := if_neg h
theorem bI_eq {p : Prop} [Decidable p] : bI p = 0 ↔ ¬ p := by
  by_cases h : p
  · rw [bI_t h]; exact ⟨fun q => absurd q (by decide), fun q => absurd h q⟩
  · rw [bI_f h]; exact ⟨fun _ => h, fun _ => rfl⟩
theorem bI_ne {p : Prop} [Decidable p] : bI p ≠ 0 ↔ p := by
  by_cases h : p
  · rw [bI_t h]; exact ⟨fun _ => h, fun _ => by decide⟩
  · rw [bI_f h]; exact ⟨fun q => absurd rfl q, fun q => absurd q h⟩
theorem bI_01 (p : Prop) [Decidable p] : bI p = 0 ∨ bI p = 1 := by
  by_cases h : p
  · exact Or.inr (bI_t h)
  · exact Or.inl (bI_f h)
theorem X.topI {M : xM} {pc : Nat} {ls : List (Nat × xV)} {st : List xV} {sh : List (Nat × Nat)} {ν : Nat → Nat → Option Nat} {μ : Nat → Nat → Int} {k n : Nat} {Q : xQ} {x y : Int} (h : x = y) (K : X M pc ls (vI y :: st) sh ν μ k n Q) : X M pc ls (vI x :: st) sh ν μ k n Q := by
  subst h; exact K
theorem X.topL {M : xM} {pc : Nat} {ls : List (Nat × xV)} {st : List xV} {sh : List (Nat × Nat)} {ν : Nat → Nat → Option Nat} {μ : Nat → Nat → Int} {k n : Nat} {Q : xQ} {x y : Int} (h : x = y) (K : X M pc ls (vL y :: st) sh ν μ k n Q) : X M pc ls (vL x :: st) sh ν μ k n Q := by
  subst h; exact K
theorem xl_lt {a b : Int} : xlcmp a b < 0 ↔ a < b := by
  unfold xlcmp
  constructor
  · intro h
    split at h
    · omega
    · split at h <;> omega
  · intro h
    rw [if_neg (by omega), if_neg (by omega)]
    decide
theorem xl_ge {a b : Int} : 0 ≤ xlcmp a b ↔ b ≤ a := by
  have := xl_lt (a := a) (b := b)
  omega
theorem xl_gt {a b : Int} : 0 < xlcmp a b ↔ b < a := by
  unfold xlcmp
  constructor
  · intro h
    split at h
    · assumption
    · split at h <;> omega
  · intro h
    rw [if_pos h]
    decide
theorem xl_le {a b : Int} : xlcmp a b ≤ 0 ↔ a ≤ b := by
  have := xl_gt (a := a) (b := b)
  omega
theorem xl_eq {a b : Int} : xlcmp a b = 0 ↔ a = b := by
  have h1 := xl_gt (a := a) (b := b)
  have h2 := xl_lt (a := a) (b := b)
  omega
theorem xl_ne {a b : Int} : xlcmp a b ≠ 0 ↔ a ≠ b := by
  have h1 := xl_eq (a := a) (b := b)
  omega
theorem g_X0_has_0 {sh : List (Nat × Nat)} {ν : Nat → Nat → Option Nat} {μ : Nat → Nat → Int} {f s : Nat} {Q : xQ} (hW : WF sh ν f s) {x1 : Int}
    (h : ((x1 < 0 → Q (some (vI 0)) sh (ν) (μ)) ∧ (0 ≤ x1 → ((81 ≤ x1 → Q (some (vI 0)) sh (ν) (μ)) ∧ (x1 < 81 → ((((μ) 211 1) ≤ (w32 (Int.tmod x1 9)) → Q (some (vI 0)) sh (ν) (μ)) ∧ ((w32 (Int.tmod x1 9)) < ((μ) 211 1) → ((((μ) 211 2) ≤ (w32 (Int.tdiv x1 9)) → Q (some (vI 0)) sh (ν) (μ)) ∧ ((w32 (Int.tdiv x1 9)) < ((μ) 211 2) → Q (some (vI 1)) sh (ν) (μ)))))))))) :
    X mX0_has 0 [(0, vR 211), (1, vI x1)] [] sh ν μ 0 0 Q := by
  refine X.iload_n (pc := 0) (i := 1) 1 dX0_has_0 rfl rfl ?_
  refine X.if_lt (pc := 1) 36 dX0_has_1 (by decide) ⟨fun q9 => ?_, fun q9 => ?_⟩
  · have h := h.1 q9
    refine X.iconst (pc := 36) dX0_has_36 ⟨by decide, by decide⟩ ?_
    exact X.zret (pc := 37) dX0_has_37 rfl (by decide) (Nat.le_of_ble_eq_true rfl) (Nat.le_of_ble_eq_true rfl) h
  · have h := h.2 q9
    refine X.iload_n (pc := 4) (i := 1) 1 dX0_has_4 rfl rfl ?_
    refine X.bipush (pc := 5) (y := 81) dX0_has_5 rfl ⟨by decide, by decide⟩ ?_
    refine X.icmp_ge (pc := 7) 36 dX0_has_7 (by decide) ⟨fun q9 => ?_, fun q9 => ?_⟩
    · have h := h.1 q9
      refine X.iconst (pc := 36) dX0_has_36 ⟨by decide, by decide⟩ ?_
      exact X.zret (pc := 37) dX0_has_37 rfl (by decide) (Nat.le_of_ble_eq_true rfl) (Nat.le_of_ble_eq_true rfl) h
    · have h := h.2 q9
      refine X.iload_n (pc := 10) (i := 1) 1 dX0_has_10 rfl rfl ?_
      refine X.bipush (pc := 11) (y := 9) dX0_has_11 rfl ⟨by decide, by decide⟩ ?_
      refine X.irem (pc := 13) dX0_has_13 (by decide) ?_
      refine X.aload_n (pc := 14) (i := 0) 0 dX0_has_14 rfl rfl ?_
      refine X.getI (pc := 15) dX0_has_15 fl_X0_15 rfl (fs_X0 hW) ?_
      refine X.icmp_ge (pc := 18) 36 dX0_has_18 (by decide) ⟨fun q9 => ?_, fun q9 => ?_⟩
      · have h := h.1 q9
        refine X.iconst (pc := 36) dX0_has_36 ⟨by decide, by decide⟩ ?_
        exact X.zret (pc := 37) dX0_has_37 rfl (by decide) (Nat.le_of_ble_eq_true rfl) (Nat.le_of_ble_eq_true rfl) h
      · have h := h.2 q9
        refine X.iload_n (pc := 21) (i := 1) 1 dX0_has_21 rfl rfl ?_
        refine X.bipush (pc := 22) (y := 9) dX0_has_22 rfl ⟨by decide, by decide⟩ ?_
        refine X.idiv (pc := 24) dX0_has_24 (by decide) ?_
        refine X.aload_n (pc := 25) (i := 0) 0 dX0_has_25 rfl rfl ?_
        refine X.getI (pc := 26) dX0_has_26 fl_X0_19 rfl (fs_X0 hW) ?_
        refine X.icmp_ge (pc := 29) 36 dX0_has_29 (by decide) ⟨fun q9 => ?_, fun q9 => ?_⟩
        · have h := h.1 q9
          refine X.iconst (pc := 36) dX0_has_36 ⟨by decide, by decide⟩ ?_
          exact X.zret (pc := 37) dX0_has_37 rfl (by decide) (Nat.le_of_ble_eq_true rfl) (Nat.le_of_ble_eq_true rfl) h
        · have h := h.2 q9
          refine X.iconst (pc := 32) dX0_has_32 ⟨by decide, by decide⟩ ?_
          refine X.goto (pc := 33) (tgt := 37) dX0_has_33 (by decide) ?_
          exact X.zret (pc := 37) dX0_has_37 rfl (by decide) (Nat.le_of_ble_eq_true rfl) (Nat.le_of_ble_eq_true rfl) h

theorem g_X1_waysOf_0 {sh : List (Nat × Nat)} {ν : Nat → Nat → Option Nat} {μ : Nat → Nat → Int} {f s : Nat} {Q : xQ} (hW : WF sh ν f s) {p0 : Nat} (hp0 : isChart p0) {x1 : Int}
    (h : ((x1 < 0 → Q (some (vL 0)) sh (ν) (μ)) ∧ (0 ≤ x1 → ((nsp p0 * nsp p0 * 8) ≤ 2147483647) ∧ ((((nsp p0 * nsp p0 * 8) : Nat) ≤ x1 → Q (some (vL 0)) sh (ν) (μ)) ∧ (x1 < ((nsp p0 * nsp p0 * 8) : Nat) → (0 ≤ x1 ∧ x1 < ((nsp p0 * nsp p0 * 8) : Nat)) ∧ Q (some (vL ((μ) (p0 + 15) (Int.toNat x1)))) sh (ν) (μ)))))) :
    X mX1_waysOf 0 [(0, vR p0), (1, vI x1)] [] sh ν μ 0 0 Q := by
  refine X.iload_n (pc := 0) (i := 1) 1 dX1_waysOf_0 rfl rfl ?_
  refine X.if_lt (pc := 1) 22 dX1_waysOf_1 (by decide) ⟨fun q9 => ?_, fun q9 => ?_⟩
  · have h := h.1 q9
    refine X.lconst (pc := 22) (y := 0) dX1_waysOf_22 rfl ⟨by decide, by decide⟩ ?_
    exact X.lret (pc := 23) dX1_waysOf_23 rfl (Nat.le_of_ble_eq_true rfl) (Nat.le_of_ble_eq_true rfl) h
  · have h := h.2 q9
    refine X.iload_n (pc := 4) (i := 1) 1 dX1_waysOf_4 rfl rfl ?_
    refine X.aload_n (pc := 5) (i := 0) 0 dX1_waysOf_5 rfl rfl ?_
    refine X.getR (pc := 6) (b := (p0 + 15)) dX1_waysOf_6 fl_X1_54 rfl (fs_X1 hW hp0) (fp_X1_9 hW hp0) ?_
    obtain ⟨c1, h⟩ := h
    refine X.alen (pc := 9) dX1_waysOf_9 (fa_X1_9 hW hp0) (by decide) c1 ?_
    refine X.icmp_ge (pc := 10) 22 dX1_waysOf_10 (by decide) ⟨fun q9 => ?_, fun q9 => ?_⟩
    · have h := h.1 q9
      refine X.lconst (pc := 22) (y := 0) dX1_waysOf_22 rfl ⟨by decide, by decide⟩ ?_
      exact X.lret (pc := 23) dX1_waysOf_23 rfl (Nat.le_of_ble_eq_true rfl) (Nat.le_of_ble_eq_true rfl) h
    · have h := h.2 q9
      refine X.aload_n (pc := 13) (i := 0) 0 dX1_waysOf_13 rfl rfl ?_
      refine X.getR (pc := 14) (b := (p0 + 15)) dX1_waysOf_14 fl_X1_54 rfl (fs_X1 hW hp0) (fp_X1_9 hW hp0) ?_
      refine X.iload_n (pc := 17) (i := 1) 1 dX1_waysOf_17 rfl rfl ?_
      obtain ⟨c2, h⟩ := h
      refine X.laload (pc := 18) dX1_waysOf_18 (fa_X1_9 hW hp0) c2 ?_
      refine X.goto (pc := 19) (tgt := 23) dX1_waysOf_19 (by decide) ?_
      exact X.lret (pc := 23) dX1_waysOf_23 rfl (Nat.le_of_ble_eq_true rfl) (Nat.le_of_ble_eq_true rfl) h

theorem g_X1_pickOf_0 {sh : List (Nat × Nat)} {ν : Nat → Nat → Option Nat} {μ : Nat → Nat → Int} {f s : Nat} {Q : xQ} (hW : WF sh ν f s) {p0 : Nat} (hp0 : isChart p0) {x1 : Int}
    (h : ((x1 < 0 → Q (some (vI (-9))) sh (ν) (μ)) ∧ (0 ≤ x1 → ((nsp p0 * nsp p0 * 8) ≤ 2147483647) ∧ ((((nsp p0 * nsp p0 * 8) : Nat) ≤ x1 → Q (some (vI (-9))) sh (ν) (μ)) ∧ (x1 < ((nsp p0 * nsp p0 * 8) : Nat) → (0 ≤ x1 ∧ x1 < ((nsp p0 * nsp p0 * 8) : Nat)) ∧ Q (some (vI ((μ) (p0 + 17) (Int.toNat x1)))) sh (ν) (μ)))))) :
    X mX1_pickOf 0 [(0, vR p0), (1, vI x1)] [] sh ν μ 0 0 Q := by
  refine X.iload_n (pc := 0) (i := 1) 1 dX1_pickOf_0 rfl rfl ?_
  refine X.if_lt (pc := 1) 22 dX1_pickOf_1 (by decide) ⟨fun q9 => ?_, fun q9 => ?_⟩
  · have h := h.1 q9
    refine X.bipush (pc := 22) (y := -9) dX1_pickOf_22 rfl ⟨by decide, by decide⟩ ?_
    exact X.iret (pc := 24) dX1_pickOf_24 rfl (Nat.le_of_ble_eq_true rfl) (Nat.le_of_ble_eq_true rfl) h
  · have h := h.2 q9
    refine X.iload_n (pc := 4) (i := 1) 1 dX1_pickOf_4 rfl rfl ?_
    refine X.aload_n (pc := 5) (i := 0) 0 dX1_pickOf_5 rfl rfl ?_
    refine X.getR (pc := 6) (b := (p0 + 17)) dX1_pickOf_6 fl_X1_61 rfl (fs_X1 hW hp0) (fp_X1_11 hW hp0) ?_
    obtain ⟨c1, h⟩ := h
    refine X.alen (pc := 9) dX1_pickOf_9 (fa_X1_11 hW hp0) (by decide) c1 ?_
    refine X.icmp_ge (pc := 10) 22 dX1_pickOf_10 (by decide) ⟨fun q9 => ?_, fun q9 => ?_⟩
    · have h := h.1 q9
      refine X.bipush (pc := 22) (y := -9) dX1_pickOf_22 rfl ⟨by decide, by decide⟩ ?_
      exact X.iret (pc := 24) dX1_pickOf_24 rfl (Nat.le_of_ble_eq_true rfl) (Nat.le_of_ble_eq_true rfl) h
    · have h := h.2 q9
      refine X.aload_n (pc := 13) (i := 0) 0 dX1_pickOf_13 rfl rfl ?_
      refine X.getR (pc := 14) (b := (p0 + 17)) dX1_pickOf_14 fl_X1_61 rfl (fs_X1 hW hp0) (fp_X1_11 hW hp0) ?_
      refine X.iload_n (pc := 17) (i := 1) 1 dX1_pickOf_17 rfl rfl ?_
      obtain ⟨c2, h⟩ := h
      refine X.baload (pc := 18) dX1_pickOf_18 (fa_X1_11 hW hp0) c2 ?_
      refine X.goto (pc := 19) (tgt := 24) dX1_pickOf_19 (by decide) ?_
      exact X.iret (pc := 24) dX1_pickOf_24 rfl (Nat.le_of_ble_eq_true rfl) (Nat.le_of_ble_eq_true rfl) h

theorem g_X1_weightOf_0 {sh : List (Nat × Nat)} {ν : Nat → Nat → Option Nat} {μ : Nat → Nat → Int} {f s : Nat} {Q : xQ} (hW : WF sh ν f s) {p0 : Nat} (hp0 : isChart p0) {x1 : Int}
    (h : ((x1 < 0 → Q (some (vL (-9))) sh (ν) (μ)) ∧ (0 ≤ x1 → ((nsp p0 * nsp p0 * 8) ≤ 2147483647) ∧ ((((nsp p0 * nsp p0 * 8) : Nat) ≤ x1 → Q (some (vL (-9))) sh (ν) (μ)) ∧ (x1 < ((nsp p0 * nsp p0 * 8) : Nat) → (0 ≤ x1 ∧ x1 < ((nsp p0 * nsp p0 * 8) : Nat)) ∧ Q (some (vL ((μ) (p0 + 16) (Int.toNat x1)))) sh (ν) (μ)))))) :
    X mX1_weightOf 0 [(0, vR p0), (1, vI x1)] [] sh ν μ 0 0 Q := by
  refine X.iload_n (pc := 0) (i := 1) 1 dX1_weightOf_0 rfl rfl ?_
  refine X.if_lt (pc := 1) 22 dX1_weightOf_1 (by decide) ⟨fun q9 => ?_, fun q9 => ?_⟩
  · have h := h.1 q9
    refine X.ldc2 (pc := 22) (y := -9) dX1_weightOf_22 kc_X1_92 rfl ⟨by decide, by decide⟩ ?_
    exact X.lret (pc := 25) dX1_weightOf_25 rfl (Nat.le_of_ble_eq_true rfl) (Nat.le_of_ble_eq_true rfl) h
  · have h := h.2 q9
    refine X.iload_n (pc := 4) (i := 1) 1 dX1_weightOf_4 rfl rfl ?_
    refine X.aload_n (pc := 5) (i := 0) 0 dX1_weightOf_5 rfl rfl ?_
    refine X.getR (pc := 6) (b := (p0 + 16)) dX1_weightOf_6 fl_X1_58 rfl (fs_X1 hW hp0) (fp_X1_10 hW hp0) ?_
    obtain ⟨c1, h⟩ := h
    refine X.alen (pc := 9) dX1_weightOf_9 (fa_X1_10 hW hp0) (by decide) c1 ?_
    refine X.icmp_ge (pc := 10) 22 dX1_weightOf_10 (by decide) ⟨fun q9 => ?_, fun q9 => ?_⟩
    · have h := h.1 q9
      refine X.ldc2 (pc := 22) (y := -9) dX1_weightOf_22 kc_X1_92 rfl ⟨by decide, by decide⟩ ?_
      exact X.lret (pc := 25) dX1_weightOf_25 rfl (Nat.le_of_ble_eq_true rfl) (Nat.le_of_ble_eq_true rfl) h
    · have h := h.2 q9
      refine X.aload_n (pc := 13) (i := 0) 0 dX1_weightOf_13 rfl rfl ?_
      refine X.getR (pc := 14) (b := (p0 + 16)) dX1_weightOf_14 fl_X1_58 rfl (fs_X1 hW hp0) (fp_X1_10 hW hp0) ?_
      refine X.iload_n (pc := 17) (i := 1) 1 dX1_weightOf_17 rfl rfl ?_
      obtain ⟨c2, h⟩ := h
      refine X.laload (pc := 18) dX1_weightOf_18 (fa_X1_10 hW hp0) c2 ?_
      refine X.goto (pc := 19) (tgt := 25) dX1_weightOf_19 (by decide) ?_
      exact X.lret (pc := 25) dX1_weightOf_25 rfl (Nat.le_of_ble_eq_true rfl) (Nat.le_of_ble_eq_true rfl) h

theorem g_X1_spanOf_0 {sh : List (Nat × Nat)} {ν : Nat → Nat → Option Nat} {μ : Nat → Nat → Int} {f s : Nat} {Q : xQ} (hW : WF sh ν f s) {p0 : Nat} (hp0 : isChart p0) {x1 : Int} {x2 : Int}
    (h : ((((μ) p0 3) = 0 → Q (some (vI (w32 (x2 - 1)))) sh (ν) (μ)) ∧ (((μ) p0 3) ≠ 0 → Q (some (vI (w32 ((w32 (Int.tdiv (w32 ((w32 (x2 - 1)) * (w32 (20 - x2)))) 2)) + x1)))) sh (ν) (μ)))) :
    X mX1_spanOf 0 [(0, vR p0), (1, vI x1), (2, vI x2)] [] sh ν μ 0 0 Q := by
  refine X.aload_n (pc := 0) (i := 0) 0 dX1_spanOf_0 rfl rfl ?_
  refine X.getI (pc := 1) dX1_spanOf_1 fl_X1_34 rfl (fs_X1 hW hp0) ?_
  refine X.if_eq (pc := 4) 22 dX1_spanOf_4 (by decide) ⟨fun q9 => ?_, fun q9 => ?_⟩
  · have h := h.1 q9
    refine X.iload_n (pc := 22) (i := 2) 2 dX1_spanOf_22 rfl rfl ?_
    refine X.iconst (pc := 23) dX1_spanOf_23 ⟨by decide, by decide⟩ ?_
    refine X.isub (pc := 24) dX1_spanOf_24 ?_
    exact X.iret (pc := 25) dX1_spanOf_25 rfl (Nat.le_of_ble_eq_true rfl) (Nat.le_of_ble_eq_true rfl) h
  · have h := h.2 q9
    refine X.iload_n (pc := 7) (i := 2) 2 dX1_spanOf_7 rfl rfl ?_
    refine X.iconst (pc := 8) dX1_spanOf_8 ⟨by decide, by decide⟩ ?_
    refine X.isub (pc := 9) dX1_spanOf_9 ?_
    refine X.bipush (pc := 10) (y := 20) dX1_spanOf_10 rfl ⟨by decide, by decide⟩ ?_
    refine X.iload_n (pc := 12) (i := 2) 2 dX1_spanOf_12 rfl rfl ?_
    refine X.isub (pc := 13) dX1_spanOf_13 ?_
    refine X.imul (pc := 14) dX1_spanOf_14 ?_
    refine X.iconst (pc := 15) dX1_spanOf_15 ⟨by decide, by decide⟩ ?_
    refine X.idiv (pc := 16) dX1_spanOf_16 (by decide) ?_
    refine X.iload_n (pc := 17) (i := 1) 1 dX1_spanOf_17 rfl rfl ?_
    refine X.iadd (pc := 18) dX1_spanOf_18 ?_
    refine X.goto (pc := 19) (tgt := 25) dX1_spanOf_19 (by decide) ?_
    exact X.iret (pc := 25) dX1_spanOf_25 rfl (Nat.le_of_ble_eq_true rfl) (Nat.le_of_ble_eq_true rfl) h

theorem g_X1_times_0 {sh : List (Nat × Nat)} {ν : Nat → Nat → Option Nat} {μ : Nat → Nat → Int} {f s : Nat} {Q : xQ} (hW : WF sh ν f s) {x0 : Int} {x2 : Int}
    (h : ((x2 ≤ 0 → Q (some (vL (w64 (x0 * x2)))) sh (ν) (μ)) ∧ (0 < x2 → (x2 ≠ 0) ∧ ((x0 ≤ (w64 (Int.tdiv 1000000000000000000 x2)) → Q (some (vL (w64 (x0 * x2)))) sh (ν) (μ)) ∧ ((w64 (Int.tdiv 1000000000000000000 x2)) < x0 → Q (some (vL 1000000000000000000)) sh (ν) (μ)))))) :
    X mX1_times 0 [(0, vL x0), (2, vL x2)] [] sh ν μ 0 0 Q := by
  refine X.lload_n (pc := 0) (i := 2) 1 dX1_times_0 rfl rfl ?_
  refine X.lconst (pc := 1) (y := 0) dX1_times_1 rfl ⟨by decide, by decide⟩ ?_
  refine X.lcmp (pc := 2) dX1_times_2 ?_
  refine X.if_le (pc := 3) 22 dX1_times_3 (by decide) ⟨fun q9 => ?_, fun q9 => ?_⟩
  · have h := h.1 (xl_le.mp q9)
    refine X.lload_n (pc := 22) (i := 0) 0 dX1_times_22 rfl rfl ?_
    refine X.lload_n (pc := 23) (i := 2) 1 dX1_times_23 rfl rfl ?_
    refine X.lmul (pc := 24) dX1_times_24 ?_
    exact X.lret (pc := 25) dX1_times_25 rfl (Nat.le_of_ble_eq_true rfl) (Nat.le_of_ble_eq_true rfl) h
  · have h := h.2 (xl_gt.mp q9)
    refine X.lload_n (pc := 6) (i := 0) 0 dX1_times_6 rfl rfl ?_
    refine X.ldc2 (pc := 7) (y := 1000000000000000000) dX1_times_7 kc_X1_185 rfl ⟨by decide, by decide⟩ ?_
    refine X.lload_n (pc := 10) (i := 2) 1 dX1_times_10 rfl rfl ?_
    obtain ⟨c1, h⟩ := h
    refine X.ldiv (pc := 11) dX1_times_11 c1 ?_
    refine X.lcmp (pc := 12) dX1_times_12 ?_
    refine X.if_le (pc := 13) 22 dX1_times_13 (by decide) ⟨fun q9 => ?_, fun q9 => ?_⟩
    · have h := h.1 (xl_le.mp q9)
      refine X.lload_n (pc := 22) (i := 0) 0 dX1_times_22 rfl rfl ?_
      refine X.lload_n (pc := 23) (i := 2) 1 dX1_times_23 rfl rfl ?_
      refine X.lmul (pc := 24) dX1_times_24 ?_
      exact X.lret (pc := 25) dX1_times_25 rfl (Nat.le_of_ble_eq_true rfl) (Nat.le_of_ble_eq_true rfl) h
    · have h := h.2 (xl_gt.mp q9)
      refine X.ldc2 (pc := 16) (y := 1000000000000000000) dX1_times_16 kc_X1_185 rfl ⟨by decide, by decide⟩ ?_
      refine X.goto (pc := 19) (tgt := 25) dX1_times_19 (by decide) ?_
      exact X.lret (pc := 25) dX1_times_25 rfl (Nat.le_of_ble_eq_true rfl) (Nat.le_of_ble_eq_true rfl) h

theorem g_X2_begin_0 {sh : List (Nat × Nat)} {ν : Nat → Nat → Option Nat} {μ : Nat → Nat → Int} {f s : Nat} {Q : xQ} (hW : WF sh ν f s) {p0 : Nat} (hp0 : isFront p0) {x1 : Int} {x2 : Int}
    (h : Q none sh (ν) (up (up (up (up μ p0 2 x1) p0 3 x2) p0 4 0) p0 5 0)) :
    X mX2_begin 0 [(0, vR p0), (1, vI x1), (2, vI x2)] [] sh ν μ 0 0 Q := by
  refine X.aload_n (pc := 0) (i := 0) 0 dX2_begin_0 rfl rfl ?_
  refine X.iload_n (pc := 1) (i := 1) 1 dX2_begin_1 rfl rfl ?_
  refine X.putI (pc := 2) dX2_begin_2 fl_X2_18 rfl (fun h9 => by cases h9) (fs_X2 hW hp0) (Or.inl rfl) ?_
  refine X.aload_n (pc := 5) (i := 0) 0 dX2_begin_5 rfl rfl ?_
  refine X.iload_n (pc := 6) (i := 2) 2 dX2_begin_6 rfl rfl ?_
  refine X.putI (pc := 7) dX2_begin_7 fl_X2_22 rfl (fun h9 => by cases h9) (fs_X2 hW hp0) (Or.inl rfl) ?_
  refine X.aload_n (pc := 10) (i := 0) 0 dX2_begin_10 rfl rfl ?_
  refine X.iconst (pc := 11) dX2_begin_11 ⟨by decide, by decide⟩ ?_
  refine X.putI (pc := 12) dX2_begin_12 fl_X2_25 rfl (fun h9 => by cases h9) (fs_X2 hW hp0) (Or.inl rfl) ?_
  refine X.aload_n (pc := 15) (i := 0) 0 dX2_begin_15 rfl rfl ?_
  refine X.iconst (pc := 16) dX2_begin_16 ⟨by decide, by decide⟩ ?_
  refine X.putI (pc := 17) dX2_begin_17 fl_X2_28 rfl (fun h9 => by cases h9) (fs_X2 hW hp0) (Or.inl rfl) ?_
  exact X.vret (pc := 20) dX2_begin_20 rfl (Nat.le_of_ble_eq_true rfl) (Nat.le_of_ble_eq_true rfl) h

theorem g_X2_add_0 {sh : List (Nat × Nat)} {ν : Nat → Nat → Option Nat} {μ : Nat → Nat → Int} {f s : Nat} {Q : xQ} (hW : WF sh ν f s) {p0 : Nat} (hp0 : isFront p0) {x1 : Int} {x2 : Int}
    (h : ((8000 ≤ ((μ) p0 4) → Q none sh (ν) (μ)) ∧ (((μ) p0 4) < 8000 → (0 ≤ ((μ) p0 4) ∧ ((μ) p0 4) < (8000 : Nat)) ∧ Q none sh (ν) (up (up (up μ (p0 + 2) (Int.toNat ((μ) p0 4)) (w8 (w8 x1))) p0 4 (w32 (((μ) p0 4) + 1))) p0 5 (w32 (((μ) p0 5) + x2)))))) :
    X mX2_add 0 [(0, vR p0), (1, vI x1), (2, vI x2)] [] sh ν μ 0 0 Q := by
  refine X.aload_n (pc := 0) (i := 0) 0 dX2_add_0 rfl rfl ?_
  refine X.getI (pc := 1) dX2_add_1 fl_X2_25 rfl (fs_X2 hW hp0) ?_
  refine X.sipush (pc := 4) (y := 8000) dX2_add_4 rfl ⟨by decide, by decide⟩ ?_
  refine X.icmp_ge (pc := 7) 41 dX2_add_7 (by decide) ⟨fun q9 => ?_, fun q9 => ?_⟩
  · have h := h.1 q9
    exact X.vret (pc := 41) dX2_add_41 rfl (Nat.le_of_ble_eq_true rfl) (Nat.le_of_ble_eq_true rfl) h
  · have h := h.2 q9
    refine X.aload_n (pc := 10) (i := 0) 0 dX2_add_10 rfl rfl ?_
    refine X.getR (pc := 11) (b := (p0 + 2)) dX2_add_11 fl_X2_15 rfl (fs_X2 hW hp0) (fp_X2_1 hW hp0) ?_
    refine X.aload_n (pc := 14) (i := 0) 0 dX2_add_14 rfl rfl ?_
    refine X.getI (pc := 15) dX2_add_15 fl_X2_25 rfl (fs_X2 hW hp0) ?_
    refine X.iload_n (pc := 18) (i := 1) 1 dX2_add_18 rfl rfl ?_
    refine X.i2b (pc := 19) dX2_add_19 ?_
    obtain ⟨c1, h⟩ := h
    refine X.bastore (pc := 20) dX2_add_20 (fa_X2_1 hW hp0) c1 ?_
    refine X.aload_n (pc := 21) (i := 0) 0 dX2_add_21 rfl rfl ?_
    refine X.dup (pc := 22) dX2_add_22 rfl ?_
    refine X.getI (pc := 23) dX2_add_23 fl_X2_25 rfl (fs_X2 hW hp0) ?_
    refine X.topI (y := ((μ) p0 4)) ((up_a (by omega) _)) ?_
    refine X.iconst (pc := 26) dX2_add_26 ⟨by decide, by decide⟩ ?_
    refine X.iadd (pc := 27) dX2_add_27 ?_
    refine X.putI (pc := 28) dX2_add_28 fl_X2_25 rfl (fun h9 => by cases h9) (fs_X2 hW hp0) (Or.inl rfl) ?_
    refine X.aload_n (pc := 31) (i := 0) 0 dX2_add_31 rfl rfl ?_
    refine X.dup (pc := 32) dX2_add_32 rfl ?_
    refine X.getI (pc := 33) dX2_add_33 fl_X2_28 rfl (fs_X2 hW hp0) ?_
    refine X.topI (y := ((μ) p0 5)) (Eq.trans (up_k (by decide) _) ((up_a (by omega) _))) ?_
    refine X.iload_n (pc := 36) (i := 2) 2 dX2_add_36 rfl rfl ?_
    refine X.iadd (pc := 37) dX2_add_37 ?_
    refine X.putI (pc := 38) dX2_add_38 fl_X2_28 rfl (fun h9 => by cases h9) (fs_X2 hW hp0) (Or.inl rfl) ?_
    exact X.vret (pc := 41) dX2_add_41 rfl (Nat.le_of_ble_eq_true rfl) (Nat.le_of_ble_eq_true rfl) h

theorem g_X2_letterOf_0 {sh : List (Nat × Nat)} {ν : Nat → Nat → Option Nat} {μ : Nat → Nat → Int} {f s : Nat} {Q : xQ} (hW : WF sh ν f s) {p0 : Nat} (hp0 : isFront p0) {x1 : Int} {x2 : Int}
    (h : (((w32 (x1 + (w32 (20 * x2)))) < 0 → Q (some (vI (-9))) sh (ν) (μ)) ∧ (0 ≤ (w32 (x1 + (w32 (20 * x2)))) → ((400 ≤ (w32 (x1 + (w32 (20 * x2)))) → Q (some (vI (-9))) sh (ν) (μ)) ∧ ((w32 (x1 + (w32 (20 * x2)))) < 400 → (0 ≤ (w32 (x1 + (w32 (20 * x2)))) ∧ (w32 (x1 + (w32 (20 * x2)))) < (400 : Nat)) ∧ Q (some (vI ((μ) (p0 + 1) (Int.toNat (w32 (x1 + (w32 (20 * x2)))))))) sh (ν) (μ)))))) :
    X mX2_letterOf 0 [(0, vR p0), (1, vI x1), (2, vI x2)] [] sh ν μ 0 0 Q := by
  refine X.iload_n (pc := 0) (i := 1) 1 dX2_letterOf_0 rfl rfl ?_
  refine X.bipush (pc := 1) (y := 20) dX2_letterOf_1 rfl ⟨by decide, by decide⟩ ?_
  refine X.iload_n (pc := 3) (i := 2) 2 dX2_letterOf_3 rfl rfl ?_
  refine X.imul (pc := 4) dX2_letterOf_4 ?_
  refine X.iadd (pc := 5) dX2_letterOf_5 ?_
  refine X.istore_n (pc := 6) (i := 3) (ls' := [(3, vI (w32 (x1 + (w32 (20 * x2))))), (0, vR p0), (1, vI x1), (2, vI x2)]) dX2_letterOf_6 rfl (by decide) rfl ?_
  refine X.iload_n (pc := 7) (i := 3) 0 dX2_letterOf_7 rfl rfl ?_
  refine X.if_lt (pc := 8) 27 dX2_letterOf_8 (by decide) ⟨fun q9 => ?_, fun q9 => ?_⟩
  · have h := h.1 q9
    refine X.bipush (pc := 27) (y := -9) dX2_letterOf_27 rfl ⟨by decide, by decide⟩ ?_
    exact X.iret (pc := 29) dX2_letterOf_29 rfl (Nat.le_of_ble_eq_true rfl) (Nat.le_of_ble_eq_true rfl) h
  · have h := h.2 q9
    refine X.iload_n (pc := 11) (i := 3) 0 dX2_letterOf_11 rfl rfl ?_
    refine X.sipush (pc := 12) (y := 400) dX2_letterOf_12 rfl ⟨by decide, by decide⟩ ?_
    refine X.icmp_ge (pc := 15) 27 dX2_letterOf_15 (by decide) ⟨fun q9 => ?_, fun q9 => ?_⟩
    · have h := h.1 q9
      refine X.bipush (pc := 27) (y := -9) dX2_letterOf_27 rfl ⟨by decide, by decide⟩ ?_
      exact X.iret (pc := 29) dX2_letterOf_29 rfl (Nat.le_of_ble_eq_true rfl) (Nat.le_of_ble_eq_true rfl) h
    · have h := h.2 q9
      refine X.aload_n (pc := 18) (i := 0) 1 dX2_letterOf_18 rfl rfl ?_
      refine X.getR (pc := 19) (b := (p0 + 1)) dX2_letterOf_19 fl_X2_9 rfl (fs_X2 hW hp0) (fp_X2_0 hW hp0) ?_
      refine X.iload_n (pc := 22) (i := 3) 0 dX2_letterOf_22 rfl rfl ?_
      obtain ⟨c1, h⟩ := h
      refine X.baload (pc := 23) dX2_letterOf_23 (fa_X2_0 hW hp0) c1 ?_
      refine X.goto (pc := 24) (tgt := 29) dX2_letterOf_24 (by decide) ?_
      exact X.iret (pc := 29) dX2_letterOf_29 rfl (Nat.le_of_ble_eq_true rfl) (Nat.le_of_ble_eq_true rfl) h

theorem g_X3_isFull_0 {sh : List (Nat × Nat)} {ν : Nat → Nat → Option Nat} {μ : Nat → Nat → Int} {f s : Nat} {Q : xQ} (hW : WF sh ν f s) 
    (h : ((((μ) 1 2) < 40 → Q (some (vI 0)) sh (ν) (μ)) ∧ (40 ≤ ((μ) 1 2) → Q (some (vI 1)) sh (ν) (μ)))) :
    X mX3_isFull 0 [(0, vR 1)] [] sh ν μ 0 0 Q := by
  refine X.aload_n (pc := 0) (i := 0) 0 dX3_isFull_0 rfl rfl ?_
  refine X.getI (pc := 1) dX3_isFull_1 fl_X3_24 rfl (fs_X3 hW) ?_
  refine X.bipush (pc := 4) (y := 40) dX3_isFull_4 rfl ⟨by decide, by decide⟩ ?_
  refine X.icmp_lt (pc := 6) 13 dX3_isFull_6 (by decide) ⟨fun q9 => ?_, fun q9 => ?_⟩
  · have h := h.1 q9
    refine X.iconst (pc := 13) dX3_isFull_13 ⟨by decide, by decide⟩ ?_
    exact X.zret (pc := 14) dX3_isFull_14 rfl (by decide) (Nat.le_of_ble_eq_true rfl) (Nat.le_of_ble_eq_true rfl) h
  · have h := h.2 q9
    refine X.iconst (pc := 9) dX3_isFull_9 ⟨by decide, by decide⟩ ?_
    refine X.goto (pc := 10) (tgt := 14) dX3_isFull_10 (by decide) ?_
    exact X.zret (pc := 14) dX3_isFull_14 rfl (by decide) (Nat.le_of_ble_eq_true rfl) (Nat.le_of_ble_eq_true rfl) h

theorem g_X3_has_0 {sh : List (Nat × Nat)} {ν : Nat → Nat → Option Nat} {μ : Nat → Nat → Int} {f s : Nat} {Q : xQ} (hW : WF sh ν f s) {x1 : Int}
    (h : ((x1 < 0 → Q (some (vI 0)) sh (ν) (μ)) ∧ (0 ≤ x1 → ((((μ) 1 2) ≤ x1 → Q (some (vI 0)) sh (ν) (μ)) ∧ (x1 < ((μ) 1 2) → Q (some (vI 1)) sh (ν) (μ)))))) :
    X mX3_has 0 [(0, vR 1), (1, vI x1)] [] sh ν μ 0 0 Q := by
  refine X.iload_n (pc := 0) (i := 1) 1 dX3_has_0 rfl rfl ?_
  refine X.if_lt (pc := 1) 16 dX3_has_1 (by decide) ⟨fun q9 => ?_, fun q9 => ?_⟩
  · have h := h.1 q9
    refine X.iconst (pc := 16) dX3_has_16 ⟨by decide, by decide⟩ ?_
    exact X.zret (pc := 17) dX3_has_17 rfl (by decide) (Nat.le_of_ble_eq_true rfl) (Nat.le_of_ble_eq_true rfl) h
  · have h := h.2 q9
    refine X.iload_n (pc := 4) (i := 1) 1 dX3_has_4 rfl rfl ?_
    refine X.aload_n (pc := 5) (i := 0) 0 dX3_has_5 rfl rfl ?_
    refine X.getI (pc := 6) dX3_has_6 fl_X3_24 rfl (fs_X3 hW) ?_
    refine X.icmp_ge (pc := 9) 16 dX3_has_9 (by decide) ⟨fun q9 => ?_, fun q9 => ?_⟩
    · have h := h.1 q9
      refine X.iconst (pc := 16) dX3_has_16 ⟨by decide, by decide⟩ ?_
      exact X.zret (pc := 17) dX3_has_17 rfl (by decide) (Nat.le_of_ble_eq_true rfl) (Nat.le_of_ble_eq_true rfl) h
    · have h := h.2 q9
      refine X.iconst (pc := 12) dX3_has_12 ⟨by decide, by decide⟩ ?_
      refine X.goto (pc := 13) (tgt := 17) dX3_has_13 (by decide) ?_
      exact X.zret (pc := 17) dX3_has_17 rfl (by decide) (Nat.le_of_ble_eq_true rfl) (Nat.le_of_ble_eq_true rfl) h

theorem g_X4_tie_0 {sh : List (Nat × Nat)} {ν : Nat → Nat → Option Nat} {μ : Nat → Nat → Int} {f s : Nat} {Q : xQ} (hW : WF sh ν f s) {p0 : Nat} (hp0 : isKnot p0) {x1 : Int} {x2 : Int} {x3 : Int} {x4 : Int}
    (h : ((((μ) p0 9) < 40 → (0 ≤ ((μ) p0 9) ∧ ((μ) p0 9) < (40 : Nat)) ∧ (0 ≤ ((μ) p0 9) ∧ ((μ) p0 9) < (40 : Nat)) ∧ (0 ≤ ((μ) p0 9) ∧ ((μ) p0 9) < (40 : Nat)) ∧ (0 ≤ ((μ) p0 9) ∧ ((μ) p0 9) < (40 : Nat)) ∧ Q none sh (ν) (up (up (up (up (up μ (p0 + 6) (Int.toNat ((μ) p0 9)) x1) (p0 + 7) (Int.toNat ((μ) p0 9)) x2) (p0 + 8) (Int.toNat ((μ) p0 9)) x3) (p0 + 9) (Int.toNat ((μ) p0 9)) x4) p0 9 (w32 (((μ) p0 9) + 1)))) ∧ (40 ≤ ((μ) p0 9) → Q none sh (ν) (μ)))) :
    X mX4_tie 0 [(0, vR p0), (1, vI x1), (2, vI x2), (3, vI x3), (4, vL x4)] [] sh ν μ 0 0 Q := by
  refine X.aload_n (pc := 0) (i := 0) 0 dX4_tie_0 rfl rfl ?_
  refine X.getI (pc := 1) dX4_tie_1 fl_X4_40 rfl (fs_X4 hW hp0) ?_
  refine X.bipush (pc := 4) (y := 40) dX4_tie_4 rfl ⟨by decide, by decide⟩ ?_
  refine X.icmp_lt (pc := 6) 10 dX4_tie_6 (by decide) ⟨fun q9 => ?_, fun q9 => ?_⟩
  · have h := h.1 q9
    refine X.aload_n (pc := 10) (i := 0) 0 dX4_tie_10 rfl rfl ?_
    refine X.getR (pc := 11) (b := (p0 + 6)) dX4_tie_11 fl_X4_28 rfl (fs_X4 hW hp0) (fp_X4_5 hW hp0) ?_
    refine X.aload_n (pc := 14) (i := 0) 0 dX4_tie_14 rfl rfl ?_
    refine X.getI (pc := 15) dX4_tie_15 fl_X4_40 rfl (fs_X4 hW hp0) ?_
    refine X.iload_n (pc := 18) (i := 1) 1 dX4_tie_18 rfl rfl ?_
    obtain ⟨c1, h⟩ := h
    refine X.iastore (pc := 19) dX4_tie_19 (fa_X4_5 hW hp0) c1 ?_
    refine X.aload_n (pc := 20) (i := 0) 0 dX4_tie_20 rfl rfl ?_
    refine X.getR (pc := 21) (b := (p0 + 7)) dX4_tie_21 fl_X4_31 rfl (fs_X4 hW hp0) (fp_X4_6 hW hp0) ?_
    refine X.aload_n (pc := 24) (i := 0) 0 dX4_tie_24 rfl rfl ?_
    refine X.getI (pc := 25) dX4_tie_25 fl_X4_40 rfl (fs_X4 hW hp0) ?_
    refine X.topI (y := ((μ) p0 9)) ((up_a (by omega) _)) ?_
    refine X.iload_n (pc := 28) (i := 2) 2 dX4_tie_28 rfl rfl ?_
    obtain ⟨c2, h⟩ := h
    refine X.iastore (pc := 29) dX4_tie_29 (fa_X4_6 hW hp0) c2 ?_
    refine X.aload_n (pc := 30) (i := 0) 0 dX4_tie_30 rfl rfl ?_
    refine X.getR (pc := 31) (b := (p0 + 8)) dX4_tie_31 fl_X4_34 rfl (fs_X4 hW hp0) (fp_X4_7 hW hp0) ?_
    refine X.aload_n (pc := 34) (i := 0) 0 dX4_tie_34 rfl rfl ?_
    refine X.getI (pc := 35) dX4_tie_35 fl_X4_40 rfl (fs_X4 hW hp0) ?_
    refine X.topI (y := ((μ) p0 9)) (Eq.trans (up_a (by omega) _) ((up_a (by omega) _))) ?_
    refine X.iload_n (pc := 38) (i := 3) 3 dX4_tie_38 rfl rfl ?_
    obtain ⟨c3, h⟩ := h
    refine X.iastore (pc := 39) dX4_tie_39 (fa_X4_7 hW hp0) c3 ?_
    refine X.aload_n (pc := 40) (i := 0) 0 dX4_tie_40 rfl rfl ?_
    refine X.getR (pc := 41) (b := (p0 + 9)) dX4_tie_41 fl_X4_37 rfl (fs_X4 hW hp0) (fp_X4_8 hW hp0) ?_
    refine X.aload_n (pc := 44) (i := 0) 0 dX4_tie_44 rfl rfl ?_
    refine X.getI (pc := 45) dX4_tie_45 fl_X4_40 rfl (fs_X4 hW hp0) ?_
    refine X.topI (y := ((μ) p0 9)) (Eq.trans (up_a (by omega) _) (Eq.trans (up_a (by omega) _) ((up_a (by omega) _)))) ?_
    refine X.lload (pc := 48) (i := 4) 4 dX4_tie_48 rfl ?_
    obtain ⟨c4, h⟩ := h
    refine X.lastore (pc := 50) dX4_tie_50 (fa_X4_8 hW hp0) c4 ?_
    refine X.aload_n (pc := 51) (i := 0) 0 dX4_tie_51 rfl rfl ?_
    refine X.dup (pc := 52) dX4_tie_52 rfl ?_
    refine X.getI (pc := 53) dX4_tie_53 fl_X4_40 rfl (fs_X4 hW hp0) ?_
    refine X.topI (y := ((μ) p0 9)) (Eq.trans (up_a (by omega) _) (Eq.trans (up_a (by omega) _) (Eq.trans (up_a (by omega) _) ((up_a (by omega) _))))) ?_
    refine X.iconst (pc := 56) dX4_tie_56 ⟨by decide, by decide⟩ ?_
    refine X.iadd (pc := 57) dX4_tie_57 ?_
    refine X.putI (pc := 58) dX4_tie_58 fl_X4_40 rfl (fun h9 => by cases h9) (fs_X4 hW hp0) (Or.inl rfl) ?_
    exact X.vret (pc := 61) dX4_tie_61 rfl (Nat.le_of_ble_eq_true rfl) (Nat.le_of_ble_eq_true rfl) h
  · have h := h.2 q9
    exact X.vret (pc := 9) dX4_tie_9 rfl (Nat.le_of_ble_eq_true rfl) (Nat.le_of_ble_eq_true rfl) h

theorem g_X4_waysOf_0 {sh : List (Nat × Nat)} {ν : Nat → Nat → Option Nat} {μ : Nat → Nat → Int} {f s : Nat} {Q : xQ} (hW : WF sh ν f s) {p0 : Nat} (hp0 : isKnot p0) {x1 : Int}
    (h : (((xand (xshr ((μ) p0 10) x1) 1) = 0 → (0 ≤ x1 ∧ x1 < (8 : Nat)) ∧ Q (some (vL ((μ) (p0 + 2) (Int.toNat x1)))) sh (ν) (μ)) ∧ ((xand (xshr ((μ) p0 10) x1) 1) ≠ 0 → Q (some (vL (-10))) sh (ν) (μ)))) :
    X mX4_waysOf 0 [(0, vR p0), (1, vI x1)] [] sh ν μ 0 0 Q := by
  refine X.aload_n (pc := 0) (i := 0) 0 dX4_waysOf_0 rfl rfl ?_
  refine X.getI (pc := 1) dX4_waysOf_1 fl_X4_44 rfl (fs_X4 hW hp0) ?_
  refine X.iload_n (pc := 4) (i := 1) 1 dX4_waysOf_4 rfl rfl ?_
  refine X.ishr (pc := 5) dX4_waysOf_5 ?_
  refine X.iconst (pc := 6) dX4_waysOf_6 ⟨by decide, by decide⟩ ?_
  refine X.iand (pc := 7) dX4_waysOf_7 ?_
  refine X.if_eq (pc := 8) 17 dX4_waysOf_8 (by decide) ⟨fun q9 => ?_, fun q9 => ?_⟩
  · have h := h.1 q9
    refine X.aload_n (pc := 17) (i := 0) 0 dX4_waysOf_17 rfl rfl ?_
    refine X.getR (pc := 18) (b := (p0 + 2)) dX4_waysOf_18 fl_X4_15 rfl (fs_X4 hW hp0) (fp_X4_1 hW hp0) ?_
    refine X.iload_n (pc := 21) (i := 1) 1 dX4_waysOf_21 rfl rfl ?_
    obtain ⟨c1, h⟩ := h
    refine X.laload (pc := 22) dX4_waysOf_22 (fa_X4_1 hW hp0) c1 ?_
    exact X.lret (pc := 23) dX4_waysOf_23 rfl (Nat.le_of_ble_eq_true rfl) (Nat.le_of_ble_eq_true rfl) h
  · have h := h.2 q9
    refine X.ldc2 (pc := 11) (y := -10) dX4_waysOf_11 kc_X4_58 rfl ⟨by decide, by decide⟩ ?_
    refine X.goto (pc := 14) (tgt := 23) dX4_waysOf_14 (by decide) ?_
    exact X.lret (pc := 23) dX4_waysOf_23 rfl (Nat.le_of_ble_eq_true rfl) (Nat.le_of_ble_eq_true rfl) h

theorem g_X4_tiedTo_0 {sh : List (Nat × Nat)} {ν : Nat → Nat → Option Nat} {μ : Nat → Nat → Int} {f s : Nat} {Q : xQ} (hW : WF sh ν f s) {p0 : Nat} (hp0 : isKnot p0) {x1 : Int}
    (h : X mX4_tiedTo 4 [(0, vR p0), (1, vI x1), (2, vI 0), (3, vI 0)] [] sh (ν) (μ) 0 0 Q) :
    X mX4_tiedTo 0 [(0, vR p0), (1, vI x1)] [] sh ν μ 0 0 Q := by
  refine X.iconst (pc := 0) dX4_tiedTo_0 ⟨by decide, by decide⟩ ?_
  refine X.istore_n (pc := 1) (i := 2) (ls' := [(2, vI 0), (0, vR p0), (1, vI x1)]) dX4_tiedTo_1 rfl (by decide) rfl ?_
  refine X.iconst (pc := 2) dX4_tiedTo_2 ⟨by decide, by decide⟩ ?_
  refine X.istore_n (pc := 3) (i := 3) (ls' := [(3, vI 0), (2, vI 0), (0, vR p0), (1, vI x1)]) dX4_tiedTo_3 rfl (by decide) rfl ?_
  exact X.pick [2, 3, 1, 0] rfl h

theorem g_X4_tiedTo_4 {sh : List (Nat × Nat)} {ν : Nat → Nat → Option Nat} {μ : Nat → Nat → Int} {f s : Nat} {Q : xQ} (hW : WF sh ν f s) {p0 : Nat} (hp0 : isKnot p0) {x1 : Int} {x2 : Int} {x3 : Int}
    (h : ((((μ) p0 9) ≤ x3 → Q (some (vI x2)) sh (ν) (μ)) ∧ (x3 < ((μ) p0 9) → (0 ≤ x3 ∧ x3 < (40 : Nat)) ∧ (((xand (xshr x1 ((μ) (p0 + 8) (Int.toNat x3))) 1) = 0 → X mX4_tiedTo 36 [(0, vR p0), (1, vI x1), (2, vI x2), (3, vI x3)] [] sh (ν) (μ) 0 0 Q) ∧ ((xand (xshr x1 ((μ) (p0 + 8) (Int.toNat x3))) 1) ≠ 0 → (0 ≤ x3 ∧ x3 < (40 : Nat)) ∧ X mX4_tiedTo 36 [(0, vR p0), (1, vI x1), (2, vI (xor_ x2 (xshl 1 ((μ) (p0 + 6) (Int.toNat x3))))), (3, vI x3)] [] sh (ν) (μ) 0 0 Q))))) :
    X mX4_tiedTo 4 [(0, vR p0), (1, vI x1), (2, vI x2), (3, vI x3)] [] sh ν μ 0 0 Q := by
  refine X.iload_n (pc := 4) (i := 3) 3 dX4_tiedTo_4 rfl rfl ?_
  refine X.aload_n (pc := 5) (i := 0) 0 dX4_tiedTo_5 rfl rfl ?_
  refine X.getI (pc := 6) dX4_tiedTo_6 fl_X4_40 rfl (fs_X4 hW hp0) ?_
  refine X.icmp_ge (pc := 9) 42 dX4_tiedTo_9 (by decide) ⟨fun q9 => ?_, fun q9 => ?_⟩
  · have h := h.1 q9
    refine X.iload_n (pc := 42) (i := 2) 2 dX4_tiedTo_42 rfl rfl ?_
    exact X.iret (pc := 43) dX4_tiedTo_43 rfl (Nat.le_of_ble_eq_true rfl) (Nat.le_of_ble_eq_true rfl) h
  · have h := h.2 q9
    refine X.iload_n (pc := 12) (i := 1) 1 dX4_tiedTo_12 rfl rfl ?_
    refine X.aload_n (pc := 13) (i := 0) 0 dX4_tiedTo_13 rfl rfl ?_
    refine X.getR (pc := 14) (b := (p0 + 8)) dX4_tiedTo_14 fl_X4_34 rfl (fs_X4 hW hp0) (fp_X4_7 hW hp0) ?_
    refine X.iload_n (pc := 17) (i := 3) 3 dX4_tiedTo_17 rfl rfl ?_
    obtain ⟨c1, h⟩ := h
    refine X.iaload (pc := 18) dX4_tiedTo_18 (fa_X4_7 hW hp0) c1 ?_
    refine X.ishr (pc := 19) dX4_tiedTo_19 ?_
    refine X.iconst (pc := 20) dX4_tiedTo_20 ⟨by decide, by decide⟩ ?_
    refine X.iand (pc := 21) dX4_tiedTo_21 ?_
    refine X.if_eq (pc := 22) 36 dX4_tiedTo_22 (by decide) ⟨fun q9 => ?_, fun q9 => ?_⟩
    · have h := h.1 q9
      exact h
    · have h := h.2 q9
      refine X.iload_n (pc := 25) (i := 2) 2 dX4_tiedTo_25 rfl rfl ?_
      refine X.iconst (pc := 26) dX4_tiedTo_26 ⟨by decide, by decide⟩ ?_
      refine X.aload_n (pc := 27) (i := 0) 0 dX4_tiedTo_27 rfl rfl ?_
      refine X.getR (pc := 28) (b := (p0 + 6)) dX4_tiedTo_28 fl_X4_28 rfl (fs_X4 hW hp0) (fp_X4_5 hW hp0) ?_
      refine X.iload_n (pc := 31) (i := 3) 3 dX4_tiedTo_31 rfl rfl ?_
      obtain ⟨c2, h⟩ := h
      refine X.iaload (pc := 32) dX4_tiedTo_32 (fa_X4_5 hW hp0) c2 ?_
      refine X.ishl (pc := 33) dX4_tiedTo_33 ?_
      refine X.ior (pc := 34) dX4_tiedTo_34 ?_
      refine X.istore_n (pc := 35) (i := 2) (ls' := [(2, vI (xor_ x2 (xshl 1 ((μ) (p0 + 6) (Int.toNat x3))))), (0, vR p0), (1, vI x1), (3, vI x3)]) dX4_tiedTo_35 rfl (by decide) rfl ?_
      exact X.pick [1, 2, 0, 3] rfl h

theorem g_X4_tiedTo_36 {sh : List (Nat × Nat)} {ν : Nat → Nat → Option Nat} {μ : Nat → Nat → Int} {f s : Nat} {Q : xQ} (hW : WF sh ν f s) {p0 : Nat} (hp0 : isKnot p0) {x1 : Int} {x2 : Int} {x3 : Int}
    (h : X mX4_tiedTo 4 [(0, vR p0), (1, vI x1), (2, vI x2), (3, vI (w32 (x3 + 1)))] [] sh (ν) (μ) 0 0 Q) :
    X mX4_tiedTo 36 [(0, vR p0), (1, vI x1), (2, vI x2), (3, vI x3)] [] sh ν μ 0 0 Q := by
  refine X.iinc (pc := 36) (i := 3) (ls' := [(3, vI (w32 (x3 + 1))), (0, vR p0), (1, vI x1), (2, vI x2)]) 3 dX4_tiedTo_36 rfl (by decide) rfl ?_
  refine X.goto (pc := 39) (tgt := 4) dX4_tiedTo_39 (by decide) ?_
  exact X.pick [1, 2, 3, 0] rfl h

theorem g_X4_lightenByTies_0 {sh : List (Nat × Nat)} {ν : Nat → Nat → Option Nat} {μ : Nat → Nat → Int} {f s : Nat} {Q : xQ} (hW : WF sh ν f s) {p0 : Nat} (hp0 : isKnot p0)
    (h : X mX4_lightenByTies 2 [(0, vR p0), (1, vI 0)] [] sh (ν) (μ) 0 0 Q) :
    X mX4_lightenByTies 0 [(0, vR p0)] [] sh ν μ 0 0 Q := by
  refine X.iconst (pc := 0) dX4_lightenByTies_0 ⟨by decide, by decide⟩ ?_
  refine X.istore_n (pc := 1) (i := 1) (ls' := [(1, vI 0), (0, vR p0)]) dX4_lightenByTies_1 rfl (by decide) rfl ?_
  exact X.pick [1, 0] rfl h

theorem g_X4_lightenByTies_2 {sh : List (Nat × Nat)} {ν : Nat → Nat → Option Nat} {μ : Nat → Nat → Int} {f s : Nat} {Q : xQ} (hW : WF sh ν f s) {p0 : Nat} (hp0 : isKnot p0) {x1 : Int}
    (h : ((8 ≤ x1 → Q none sh (ν) (μ)) ∧ (x1 < 8 → X mX4_lightenByTies 10 [(0, vR p0), (1, vI x1), (2, vI 0)] [] sh (ν) (μ) 0 0 Q))) :
    X mX4_lightenByTies 2 [(0, vR p0), (1, vI x1)] [] sh ν μ 0 0 Q := by
  refine X.iload_n (pc := 2) (i := 1) 1 dX4_lightenByTies_2 rfl rfl ?_
  refine X.bipush (pc := 3) (y := 8) dX4_lightenByTies_3 rfl ⟨by decide, by decide⟩ ?_
  refine X.icmp_ge (pc := 5) 110 dX4_lightenByTies_5 (by decide) ⟨fun q9 => ?_, fun q9 => ?_⟩
  · have h := h.1 q9
    exact X.vret (pc := 110) dX4_lightenByTies_110 rfl (Nat.le_of_ble_eq_true rfl) (Nat.le_of_ble_eq_true rfl) h
  · have h := h.2 q9
    refine X.iconst (pc := 8) dX4_lightenByTies_8 ⟨by decide, by decide⟩ ?_
    refine X.istore_n (pc := 9) (i := 2) (ls' := [(2, vI 0), (0, vR p0), (1, vI x1)]) dX4_lightenByTies_9 rfl (by decide) rfl ?_
    exact X.pick [1, 2, 0] rfl h

theorem g_X4_lightenByTies_10 {sh : List (Nat × Nat)} {ν : Nat → Nat → Option Nat} {μ : Nat → Nat → Int} {f s : Nat} {Q : xQ} (hW : WF sh ν f s) {p0 : Nat} (hp0 : isKnot p0) {x1 : Int} {x2 : Int}
    (h : ((((μ) p0 9) ≤ x2 → X mX4_lightenByTies 2 [(0, vR p0), (1, vI (w32 (x1 + 1)))] [] sh (ν) (μ) 0 0 Q) ∧ (x2 < ((μ) p0 9) → (0 ≤ x2 ∧ x2 < (40 : Nat)) ∧ (0 ≤ x2 ∧ x2 < (40 : Nat)) ∧ (0 ≤ ((μ) (p0 + 8) (Int.toNat x2)) ∧ ((μ) (p0 + 8) (Int.toNat x2)) < (8 : Nat)) ∧ ((((μ) (p0 + 4) (Int.toNat ((μ) (p0 + 8) (Int.toNat x2)))) < 0 → X mX4_lightenByTies 98 [(0, vR p0), (1, vI x1), (2, vI x2)] [] sh (ν) (μ) 0 0 Q) ∧ (0 ≤ ((μ) (p0 + 4) (Int.toNat ((μ) (p0 + 8) (Int.toNat x2)))) → (0 ≤ ((μ) (p0 + 6) (Int.toNat x2)) ∧ ((μ) (p0 + 6) (Int.toNat x2)) < (8 : Nat)) ∧ ((((μ) (p0 + 4) (Int.toNat ((μ) (p0 + 6) (Int.toNat x2)))) < 0 → X mX4_lightenByTies 75 [(0, vR p0), (1, vI x1), (2, vI x2), (3, vI ((μ) (p0 + 6) (Int.toNat x2))), (4, vL ((μ) (p0 + 4) (Int.toNat ((μ) (p0 + 8) (Int.toNat x2)))))] [] sh (ν) (μ) 0 0 Q) ∧ (0 ≤ ((μ) (p0 + 4) (Int.toNat ((μ) (p0 + 6) (Int.toNat x2)))) → (0 ≤ x2 ∧ x2 < (40 : Nat)) ∧ (0 ≤ ((μ) (p0 + 6) (Int.toNat x2)) ∧ ((μ) (p0 + 6) (Int.toNat x2)) < (8 : Nat)) ∧ ((((μ) (p0 + 4) (Int.toNat ((μ) (p0 + 6) (Int.toNat x2)))) ≤ (w64 (((μ) (p0 + 4) (Int.toNat ((μ) (p0 + 8) (Int.toNat x2)))) + ((μ) (p0 + 9) (Int.toNat x2)))) → X mX4_lightenByTies 98 [(0, vR p0), (1, vI x1), (2, vI x2)] [] sh (ν) (μ) 0 0 Q) ∧ ((w64 (((μ) (p0 + 4) (Int.toNat ((μ) (p0 + 8) (Int.toNat x2)))) + ((μ) (p0 + 9) (Int.toNat x2)))) < ((μ) (p0 + 4) (Int.toNat ((μ) (p0 + 6) (Int.toNat x2)))) → X mX4_lightenByTies 75 [(0, vR p0), (1, vI x1), (2, vI x2), (3, vI ((μ) (p0 + 6) (Int.toNat x2))), (4, vL ((μ) (p0 + 4) (Int.toNat ((μ) (p0 + 8) (Int.toNat x2)))))] [] sh (ν) (μ) 0 0 Q))))))))) :
    X mX4_lightenByTies 10 [(0, vR p0), (1, vI x1), (2, vI x2)] [] sh ν μ 0 0 Q := by
  refine X.iload_n (pc := 10) (i := 2) 2 dX4_lightenByTies_10 rfl rfl ?_
  refine X.aload_n (pc := 11) (i := 0) 0 dX4_lightenByTies_11 rfl rfl ?_
  refine X.getI (pc := 12) dX4_lightenByTies_12 fl_X4_40 rfl (fs_X4 hW hp0) ?_
  refine X.icmp_ge (pc := 15) 104 dX4_lightenByTies_15 (by decide) ⟨fun q9 => ?_, fun q9 => ?_⟩
  · have h := h.1 q9
    refine X.iinc (pc := 104) (i := 1) (ls' := [(1, vI (w32 (x1 + 1))), (0, vR p0), (2, vI x2)]) 1 dX4_lightenByTies_104 rfl (by decide) rfl ?_
    refine X.goto (pc := 107) (tgt := 2) dX4_lightenByTies_107 (by decide) ?_
    exact X.pick [1, 0] rfl h
  · have h := h.2 q9
    refine X.aload_n (pc := 18) (i := 0) 0 dX4_lightenByTies_18 rfl rfl ?_
    refine X.getR (pc := 19) (b := (p0 + 6)) dX4_lightenByTies_19 fl_X4_28 rfl (fs_X4 hW hp0) (fp_X4_5 hW hp0) ?_
    refine X.iload_n (pc := 22) (i := 2) 2 dX4_lightenByTies_22 rfl rfl ?_
    obtain ⟨c1, h⟩ := h
    refine X.iaload (pc := 23) dX4_lightenByTies_23 (fa_X4_5 hW hp0) c1 ?_
    refine X.istore_n (pc := 24) (i := 3) (ls' := [(3, vI ((μ) (p0 + 6) (Int.toNat x2))), (0, vR p0), (1, vI x1), (2, vI x2)]) dX4_lightenByTies_24 rfl (by decide) rfl ?_
    refine X.aload_n (pc := 25) (i := 0) 1 dX4_lightenByTies_25 rfl rfl ?_
    refine X.getR (pc := 26) (b := (p0 + 4)) dX4_lightenByTies_26 fl_X4_21 rfl (fs_X4 hW hp0) (fp_X4_3 hW hp0) ?_
    refine X.aload_n (pc := 29) (i := 0) 1 dX4_lightenByTies_29 rfl rfl ?_
    refine X.getR (pc := 30) (b := (p0 + 8)) dX4_lightenByTies_30 fl_X4_34 rfl (fs_X4 hW hp0) (fp_X4_7 hW hp0) ?_
    refine X.iload_n (pc := 33) (i := 2) 3 dX4_lightenByTies_33 rfl rfl ?_
    obtain ⟨c2, h⟩ := h
    refine X.iaload (pc := 34) dX4_lightenByTies_34 (fa_X4_7 hW hp0) c2 ?_
    obtain ⟨c3, h⟩ := h
    refine X.laload (pc := 35) dX4_lightenByTies_35 (fa_X4_3 hW hp0) c3 ?_
    refine X.lstore (pc := 36) (i := 4) (ls' := [(4, vL ((μ) (p0 + 4) (Int.toNat ((μ) (p0 + 8) (Int.toNat x2))))), (3, vI ((μ) (p0 + 6) (Int.toNat x2))), (0, vR p0), (1, vI x1), (2, vI x2)]) dX4_lightenByTies_36 (by decide) rfl ?_
    refine X.lload (pc := 38) (i := 4) 0 dX4_lightenByTies_38 rfl ?_
    refine X.lconst (pc := 40) (y := 0) dX4_lightenByTies_40 rfl ⟨by decide, by decide⟩ ?_
    refine X.lcmp (pc := 41) dX4_lightenByTies_41 ?_
    refine X.if_lt (pc := 42) 98 dX4_lightenByTies_42 (by decide) ⟨fun q9 => ?_, fun q9 => ?_⟩
    · have h := h.1 (xl_lt.mp q9)
      exact X.pick [2, 3, 4] rfl h
    · have h := h.2 (xl_ge.mp q9)
      refine X.aload_n (pc := 45) (i := 0) 2 dX4_lightenByTies_45 rfl rfl ?_
      refine X.getR (pc := 46) (b := (p0 + 4)) dX4_lightenByTies_46 fl_X4_21 rfl (fs_X4 hW hp0) (fp_X4_3 hW hp0) ?_
      refine X.iload_n (pc := 49) (i := 3) 1 dX4_lightenByTies_49 rfl rfl ?_
      obtain ⟨c4, h⟩ := h
      refine X.laload (pc := 50) dX4_lightenByTies_50 (fa_X4_3 hW hp0) c4 ?_
      refine X.lconst (pc := 51) (y := 0) dX4_lightenByTies_51 rfl ⟨by decide, by decide⟩ ?_
      refine X.lcmp (pc := 52) dX4_lightenByTies_52 ?_
      refine X.if_lt (pc := 53) 75 dX4_lightenByTies_53 (by decide) ⟨fun q9 => ?_, fun q9 => ?_⟩
      · have h := h.1 (xl_lt.mp q9)
        exact X.pick [2, 3, 4, 1, 0] rfl h
      · have h := h.2 (xl_ge.mp q9)
        refine X.lload (pc := 56) (i := 4) 0 dX4_lightenByTies_56 rfl ?_
        refine X.aload_n (pc := 58) (i := 0) 2 dX4_lightenByTies_58 rfl rfl ?_
        refine X.getR (pc := 59) (b := (p0 + 9)) dX4_lightenByTies_59 fl_X4_37 rfl (fs_X4 hW hp0) (fp_X4_8 hW hp0) ?_
        refine X.iload_n (pc := 62) (i := 2) 4 dX4_lightenByTies_62 rfl rfl ?_
        obtain ⟨c5, h⟩ := h
        refine X.laload (pc := 63) dX4_lightenByTies_63 (fa_X4_8 hW hp0) c5 ?_
        refine X.ladd (pc := 64) dX4_lightenByTies_64 ?_
        refine X.aload_n (pc := 65) (i := 0) 2 dX4_lightenByTies_65 rfl rfl ?_
        refine X.getR (pc := 66) (b := (p0 + 4)) dX4_lightenByTies_66 fl_X4_21 rfl (fs_X4 hW hp0) (fp_X4_3 hW hp0) ?_
        refine X.iload_n (pc := 69) (i := 3) 1 dX4_lightenByTies_69 rfl rfl ?_
        obtain ⟨c6, h⟩ := h
        refine X.laload (pc := 70) dX4_lightenByTies_70 (fa_X4_3 hW hp0) c6 ?_
        refine X.lcmp (pc := 71) dX4_lightenByTies_71 ?_
        refine X.if_ge (pc := 72) 98 dX4_lightenByTies_72 (by decide) ⟨fun q9 => ?_, fun q9 => ?_⟩
        · have h := h.1 (xl_ge.mp q9)
          exact X.pick [2, 3, 4] rfl h
        · have h := h.2 (xl_lt.mp q9)
          exact X.pick [2, 3, 4, 1, 0] rfl h

theorem g_X4_lightenByTies_75 {sh : List (Nat × Nat)} {ν : Nat → Nat → Option Nat} {μ : Nat → Nat → Int} {f s : Nat} {Q : xQ} (hW : WF sh ν f s) {p0 : Nat} (hp0 : isKnot p0) {x1 : Int} {x2 : Int} {x3 : Int} {x4 : Int}
    (h : (0 ≤ x2 ∧ x2 < (40 : Nat)) ∧ (0 ≤ x3 ∧ x3 < (8 : Nat)) ∧ (0 ≤ x3 ∧ x3 < (8 : Nat)) ∧ X mX4_lightenByTies 98 [(0, vR p0), (1, vI x1), (2, vI x2)] [] sh (ν) (up (up μ (p0 + 4) (Int.toNat x3) (w64 (x4 + ((μ) (p0 + 9) (Int.toNat x2))))) (p0 + 5) (Int.toNat x3) 40) 0 0 Q) :
    X mX4_lightenByTies 75 [(0, vR p0), (1, vI x1), (2, vI x2), (3, vI x3), (4, vL x4)] [] sh ν μ 0 0 Q := by
  refine X.aload_n (pc := 75) (i := 0) 0 dX4_lightenByTies_75 rfl rfl ?_
  refine X.getR (pc := 76) (b := (p0 + 4)) dX4_lightenByTies_76 fl_X4_21 rfl (fs_X4 hW hp0) (fp_X4_3 hW hp0) ?_
  refine X.iload_n (pc := 79) (i := 3) 3 dX4_lightenByTies_79 rfl rfl ?_
  refine X.lload (pc := 80) (i := 4) 4 dX4_lightenByTies_80 rfl ?_
  refine X.aload_n (pc := 82) (i := 0) 0 dX4_lightenByTies_82 rfl rfl ?_
  refine X.getR (pc := 83) (b := (p0 + 9)) dX4_lightenByTies_83 fl_X4_37 rfl (fs_X4 hW hp0) (fp_X4_8 hW hp0) ?_
  refine X.iload_n (pc := 86) (i := 2) 2 dX4_lightenByTies_86 rfl rfl ?_
  obtain ⟨c1, h⟩ := h
  refine X.laload (pc := 87) dX4_lightenByTies_87 (fa_X4_8 hW hp0) c1 ?_
  refine X.ladd (pc := 88) dX4_lightenByTies_88 ?_
  obtain ⟨c2, h⟩ := h
  refine X.lastore (pc := 89) dX4_lightenByTies_89 (fa_X4_3 hW hp0) c2 ?_
  refine X.aload_n (pc := 90) (i := 0) 0 dX4_lightenByTies_90 rfl rfl ?_
  refine X.getR (pc := 91) (b := (p0 + 5)) dX4_lightenByTies_91 fl_X4_24 rfl (fs_X4 hW hp0) (fp_X4_4 hW hp0) ?_
  refine X.iload_n (pc := 94) (i := 3) 3 dX4_lightenByTies_94 rfl rfl ?_
  refine X.bipush (pc := 95) (y := 40) dX4_lightenByTies_95 rfl ⟨by decide, by decide⟩ ?_
  obtain ⟨c3, h⟩ := h
  refine X.iastore (pc := 97) dX4_lightenByTies_97 (fa_X4_4 hW hp0) c3 ?_
  exact X.pick [0, 1, 2] rfl h

theorem g_X4_lightenByTies_98 {sh : List (Nat × Nat)} {ν : Nat → Nat → Option Nat} {μ : Nat → Nat → Int} {f s : Nat} {Q : xQ} (hW : WF sh ν f s) {p0 : Nat} (hp0 : isKnot p0) {x1 : Int} {x2 : Int}
    (h : X mX4_lightenByTies 10 [(0, vR p0), (1, vI x1), (2, vI (w32 (x2 + 1)))] [] sh (ν) (μ) 0 0 Q) :
    X mX4_lightenByTies 98 [(0, vR p0), (1, vI x1), (2, vI x2)] [] sh ν μ 0 0 Q := by
  refine X.iinc (pc := 98) (i := 2) (ls' := [(2, vI (w32 (x2 + 1))), (0, vR p0), (1, vI x1)]) 2 dX4_lightenByTies_98 rfl (by decide) rfl ?_
  refine X.goto (pc := 101) (tgt := 10) dX4_lightenByTies_101 (by decide) ?_
  exact X.pick [1, 2, 0] rfl h

theorem g_X4_pickAmongTies_0 {sh : List (Nat × Nat)} {ν : Nat → Nat → Option Nat} {μ : Nat → Nat → Int} {f s : Nat} {Q : xQ} (hW : WF sh ν f s) {p0 : Nat} (hp0 : isKnot p0)
    (h : X mX4_pickAmongTies 2 [(0, vR p0), (1, vI 0)] [] sh (ν) (μ) 0 0 Q) :
    X mX4_pickAmongTies 0 [(0, vR p0)] [] sh ν μ 0 0 Q := by
  refine X.iconst (pc := 0) dX4_pickAmongTies_0 ⟨by decide, by decide⟩ ?_
  refine X.istore_n (pc := 1) (i := 1) (ls' := [(1, vI 0), (0, vR p0)]) dX4_pickAmongTies_1 rfl (by decide) rfl ?_
  exact X.pick [1, 0] rfl h

theorem g_X4_pickAmongTies_2 {sh : List (Nat × Nat)} {ν : Nat → Nat → Option Nat} {μ : Nat → Nat → Int} {f s : Nat} {Q : xQ} (hW : WF sh ν f s) {p0 : Nat} (hp0 : isKnot p0) {x1 : Int}
    (h : ((((μ) p0 9) ≤ x1 → Q none sh (ν) (μ)) ∧ (x1 < ((μ) p0 9) → (0 ≤ x1 ∧ x1 < (40 : Nat)) ∧ (0 ≤ x1 ∧ x1 < (40 : Nat)) ∧ (0 ≤ ((μ) (p0 + 8) (Int.toNat x1)) ∧ ((μ) (p0 + 8) (Int.toNat x1)) < (8 : Nat)) ∧ ((((μ) (p0 + 4) (Int.toNat ((μ) (p0 + 8) (Int.toNat x1)))) < 0 → X mX4_pickAmongTies 80 [(0, vR p0), (1, vI x1)] [] sh (ν) (μ) 0 0 Q) ∧ (0 ≤ ((μ) (p0 + 4) (Int.toNat ((μ) (p0 + 8) (Int.toNat x1)))) → (0 ≤ x1 ∧ x1 < (40 : Nat)) ∧ (0 ≤ ((μ) (p0 + 6) (Int.toNat x1)) ∧ ((μ) (p0 + 6) (Int.toNat x1)) < (8 : Nat)) ∧ (((w64 (((μ) (p0 + 4) (Int.toNat ((μ) (p0 + 8) (Int.toNat x1)))) + ((μ) (p0 + 9) (Int.toNat x1)))) ≠ ((μ) (p0 + 4) (Int.toNat ((μ) (p0 + 6) (Int.toNat x1)))) → X mX4_pickAmongTies 80 [(0, vR p0), (1, vI x1)] [] sh (ν) (μ) 0 0 Q) ∧ ((w64 (((μ) (p0 + 4) (Int.toNat ((μ) (p0 + 8) (Int.toNat x1)))) + ((μ) (p0 + 9) (Int.toNat x1)))) = ((μ) (p0 + 4) (Int.toNat ((μ) (p0 + 6) (Int.toNat x1)))) → (0 ≤ x1 ∧ x1 < (40 : Nat)) ∧ (0 ≤ ((μ) (p0 + 6) (Int.toNat x1)) ∧ ((μ) (p0 + 6) (Int.toNat x1)) < (8 : Nat)) ∧ ((((μ) (p0 + 5) (Int.toNat ((μ) (p0 + 6) (Int.toNat x1)))) ≤ ((μ) (p0 + 7) (Int.toNat x1)) → X mX4_pickAmongTies 80 [(0, vR p0), (1, vI x1)] [] sh (ν) (μ) 0 0 Q) ∧ (((μ) (p0 + 7) (Int.toNat x1)) < ((μ) (p0 + 5) (Int.toNat ((μ) (p0 + 6) (Int.toNat x1)))) → (0 ≤ x1 ∧ x1 < (40 : Nat)) ∧ (0 ≤ ((μ) (p0 + 6) (Int.toNat x1)) ∧ ((μ) (p0 + 6) (Int.toNat x1)) < (8 : Nat)) ∧ X mX4_pickAmongTies 80 [(0, vR p0), (1, vI x1)] [] sh (ν) (up μ (p0 + 5) (Int.toNat ((μ) (p0 + 6) (Int.toNat x1))) ((μ) (p0 + 7) (Int.toNat x1))) 0 0 Q))))))))) :
    X mX4_pickAmongTies 2 [(0, vR p0), (1, vI x1)] [] sh ν μ 0 0 Q := by
  refine X.iload_n (pc := 2) (i := 1) 1 dX4_pickAmongTies_2 rfl rfl ?_
  refine X.aload_n (pc := 3) (i := 0) 0 dX4_pickAmongTies_3 rfl rfl ?_
  refine X.getI (pc := 4) dX4_pickAmongTies_4 fl_X4_40 rfl (fs_X4 hW hp0) ?_
  refine X.icmp_ge (pc := 7) 86 dX4_pickAmongTies_7 (by decide) ⟨fun q9 => ?_, fun q9 => ?_⟩
  · have h := h.1 q9
    exact X.vret (pc := 86) dX4_pickAmongTies_86 rfl (Nat.le_of_ble_eq_true rfl) (Nat.le_of_ble_eq_true rfl) h
  · have h := h.2 q9
    refine X.aload_n (pc := 10) (i := 0) 0 dX4_pickAmongTies_10 rfl rfl ?_
    refine X.getR (pc := 11) (b := (p0 + 6)) dX4_pickAmongTies_11 fl_X4_28 rfl (fs_X4 hW hp0) (fp_X4_5 hW hp0) ?_
    refine X.iload_n (pc := 14) (i := 1) 1 dX4_pickAmongTies_14 rfl rfl ?_
    obtain ⟨c1, h⟩ := h
    refine X.iaload (pc := 15) dX4_pickAmongTies_15 (fa_X4_5 hW hp0) c1 ?_
    refine X.istore_n (pc := 16) (i := 2) (ls' := [(2, vI ((μ) (p0 + 6) (Int.toNat x1))), (0, vR p0), (1, vI x1)]) dX4_pickAmongTies_16 rfl (by decide) rfl ?_
    refine X.aload_n (pc := 17) (i := 0) 1 dX4_pickAmongTies_17 rfl rfl ?_
    refine X.getR (pc := 18) (b := (p0 + 4)) dX4_pickAmongTies_18 fl_X4_21 rfl (fs_X4 hW hp0) (fp_X4_3 hW hp0) ?_
    refine X.aload_n (pc := 21) (i := 0) 1 dX4_pickAmongTies_21 rfl rfl ?_
    refine X.getR (pc := 22) (b := (p0 + 8)) dX4_pickAmongTies_22 fl_X4_34 rfl (fs_X4 hW hp0) (fp_X4_7 hW hp0) ?_
    refine X.iload_n (pc := 25) (i := 1) 2 dX4_pickAmongTies_25 rfl rfl ?_
    obtain ⟨c2, h⟩ := h
    refine X.iaload (pc := 26) dX4_pickAmongTies_26 (fa_X4_7 hW hp0) c2 ?_
    obtain ⟨c3, h⟩ := h
    refine X.laload (pc := 27) dX4_pickAmongTies_27 (fa_X4_3 hW hp0) c3 ?_
    refine X.lstore_n (pc := 28) (i := 3) (ls' := [(3, vL ((μ) (p0 + 4) (Int.toNat ((μ) (p0 + 8) (Int.toNat x1))))), (2, vI ((μ) (p0 + 6) (Int.toNat x1))), (0, vR p0), (1, vI x1)]) dX4_pickAmongTies_28 rfl (by decide) rfl ?_
    refine X.lload_n (pc := 29) (i := 3) 0 dX4_pickAmongTies_29 rfl rfl ?_
    refine X.lconst (pc := 30) (y := 0) dX4_pickAmongTies_30 rfl ⟨by decide, by decide⟩ ?_
    refine X.lcmp (pc := 31) dX4_pickAmongTies_31 ?_
    refine X.if_lt (pc := 32) 80 dX4_pickAmongTies_32 (by decide) ⟨fun q9 => ?_, fun q9 => ?_⟩
    · have h := h.1 (xl_lt.mp q9)
      exact X.pick [2, 3] rfl h
    · have h := h.2 (xl_ge.mp q9)
      refine X.lload_n (pc := 35) (i := 3) 0 dX4_pickAmongTies_35 rfl rfl ?_
      refine X.aload_n (pc := 36) (i := 0) 2 dX4_pickAmongTies_36 rfl rfl ?_
      refine X.getR (pc := 37) (b := (p0 + 9)) dX4_pickAmongTies_37 fl_X4_37 rfl (fs_X4 hW hp0) (fp_X4_8 hW hp0) ?_
      refine X.iload_n (pc := 40) (i := 1) 3 dX4_pickAmongTies_40 rfl rfl ?_
      obtain ⟨c4, h⟩ := h
      refine X.laload (pc := 41) dX4_pickAmongTies_41 (fa_X4_8 hW hp0) c4 ?_
      refine X.ladd (pc := 42) dX4_pickAmongTies_42 ?_
      refine X.aload_n (pc := 43) (i := 0) 2 dX4_pickAmongTies_43 rfl rfl ?_
      refine X.getR (pc := 44) (b := (p0 + 4)) dX4_pickAmongTies_44 fl_X4_21 rfl (fs_X4 hW hp0) (fp_X4_3 hW hp0) ?_
      refine X.iload_n (pc := 47) (i := 2) 1 dX4_pickAmongTies_47 rfl rfl ?_
      obtain ⟨c5, h⟩ := h
      refine X.laload (pc := 48) dX4_pickAmongTies_48 (fa_X4_3 hW hp0) c5 ?_
      refine X.lcmp (pc := 49) dX4_pickAmongTies_49 ?_
      refine X.if_ne (pc := 50) 80 dX4_pickAmongTies_50 (by decide) ⟨fun q9 => ?_, fun q9 => ?_⟩
      · have h := h.1 (xl_ne.mp q9)
        exact X.pick [2, 3] rfl h
      · have h := h.2 (xl_eq.mp q9)
        refine X.aload_n (pc := 53) (i := 0) 2 dX4_pickAmongTies_53 rfl rfl ?_
        refine X.getR (pc := 54) (b := (p0 + 7)) dX4_pickAmongTies_54 fl_X4_31 rfl (fs_X4 hW hp0) (fp_X4_6 hW hp0) ?_
        refine X.iload_n (pc := 57) (i := 1) 3 dX4_pickAmongTies_57 rfl rfl ?_
        obtain ⟨c6, h⟩ := h
        refine X.iaload (pc := 58) dX4_pickAmongTies_58 (fa_X4_6 hW hp0) c6 ?_
        refine X.aload_n (pc := 59) (i := 0) 2 dX4_pickAmongTies_59 rfl rfl ?_
        refine X.getR (pc := 60) (b := (p0 + 5)) dX4_pickAmongTies_60 fl_X4_24 rfl (fs_X4 hW hp0) (fp_X4_4 hW hp0) ?_
        refine X.iload_n (pc := 63) (i := 2) 1 dX4_pickAmongTies_63 rfl rfl ?_
        obtain ⟨c7, h⟩ := h
        refine X.iaload (pc := 64) dX4_pickAmongTies_64 (fa_X4_4 hW hp0) c7 ?_
        refine X.icmp_ge (pc := 65) 80 dX4_pickAmongTies_65 (by decide) ⟨fun q9 => ?_, fun q9 => ?_⟩
        · have h := h.1 q9
          exact X.pick [2, 3] rfl h
        · have h := h.2 q9
          refine X.aload_n (pc := 68) (i := 0) 2 dX4_pickAmongTies_68 rfl rfl ?_
          refine X.getR (pc := 69) (b := (p0 + 5)) dX4_pickAmongTies_69 fl_X4_24 rfl (fs_X4 hW hp0) (fp_X4_4 hW hp0) ?_
          refine X.iload_n (pc := 72) (i := 2) 1 dX4_pickAmongTies_72 rfl rfl ?_
          refine X.aload_n (pc := 73) (i := 0) 2 dX4_pickAmongTies_73 rfl rfl ?_
          refine X.getR (pc := 74) (b := (p0 + 7)) dX4_pickAmongTies_74 fl_X4_31 rfl (fs_X4 hW hp0) (fp_X4_6 hW hp0) ?_
          refine X.iload_n (pc := 77) (i := 1) 3 dX4_pickAmongTies_77 rfl rfl ?_
          obtain ⟨c8, h⟩ := h
          refine X.iaload (pc := 78) dX4_pickAmongTies_78 (fa_X4_6 hW hp0) c8 ?_
          obtain ⟨c9, h⟩ := h
          refine X.iastore (pc := 79) dX4_pickAmongTies_79 (fa_X4_4 hW hp0) c9 ?_
          exact X.pick [2, 3] rfl h

theorem g_X4_pickAmongTies_80 {sh : List (Nat × Nat)} {ν : Nat → Nat → Option Nat} {μ : Nat → Nat → Int} {f s : Nat} {Q : xQ} (hW : WF sh ν f s) {p0 : Nat} (hp0 : isKnot p0) {x1 : Int}
    (h : X mX4_pickAmongTies 2 [(0, vR p0), (1, vI (w32 (x1 + 1)))] [] sh (ν) (μ) 0 0 Q) :
    X mX4_pickAmongTies 80 [(0, vR p0), (1, vI x1)] [] sh ν μ 0 0 Q := by
  refine X.iinc (pc := 80) (i := 1) (ls' := [(1, vI (w32 (x1 + 1))), (0, vR p0)]) 1 dX4_pickAmongTies_80 rfl (by decide) rfl ?_
  refine X.goto (pc := 83) (tgt := 2) dX4_pickAmongTies_83 (by decide) ?_
  exact X.pick [1, 0] rfl h

theorem g_X4_plus_0 {sh : List (Nat × Nat)} {ν : Nat → Nat → Option Nat} {μ : Nat → Nat → Int} {f s : Nat} {Q : xQ} (hW : WF sh ν f s) {x0 : Int} {x2 : Int}
    (h : Q (some (vL (min (w64 (x0 + x2)) 1000000000000000000))) sh (ν) (μ)) :
    X mX4_plus 0 [(0, vL x0), (2, vL x2)] [] sh ν μ 0 0 Q := by
  refine X.lload_n (pc := 0) (i := 0) 0 dX4_plus_0 rfl rfl ?_
  refine X.lload_n (pc := 1) (i := 2) 1 dX4_plus_1 rfl rfl ?_
  refine X.ladd (pc := 2) dX4_plus_2 ?_
  refine X.ldc2 (pc := 3) (y := 1000000000000000000) dX4_plus_3 kc_X4_86 rfl ⟨by decide, by decide⟩ ?_
  refine X.mmin (pc := 6) dX4_plus_6 lk_X4_88 w_ms w_mi w_mc (by decide) (Nat.le_of_ble_eq_true rfl) (Nat.le_of_ble_eq_true rfl) (Nat.le_of_ble_eq_true rfl) ?_
  exact X.lret (pc := 9) dX4_plus_9 rfl (Nat.le_of_ble_eq_true rfl) (Nat.le_of_ble_eq_true rfl) h

theorem g_X5_laidOneAfterAnother_0 {sh : List (Nat × Nat)} {ν : Nat → Nat → Option Nat} {μ : Nat → Nat → Int} {f s : Nat} {Q : xQ} (hW : WF sh ν f s) 
    (h : X mX5_laidOneAfterAnother 4 [(0, vR 207), (1, vI 0), (2, vI 0)] [] sh (ν) (μ) 0 0 Q) :
    X mX5_laidOneAfterAnother 0 [(0, vR 207)] [] sh ν μ 0 0 Q := by
  refine X.iconst (pc := 0) dX5_laidOneAfterAnother_0 ⟨by decide, by decide⟩ ?_
  refine X.istore_n (pc := 1) (i := 1) (ls' := [(1, vI 0), (0, vR 207)]) dX5_laidOneAfterAnother_1 rfl (by decide) rfl ?_
  refine X.iconst (pc := 2) dX5_laidOneAfterAnother_2 ⟨by decide, by decide⟩ ?_
  refine X.istore_n (pc := 3) (i := 2) (ls' := [(2, vI 0), (1, vI 0), (0, vR 207)]) dX5_laidOneAfterAnother_3 rfl (by decide) rfl ?_
  exact X.pick [2, 1, 0] rfl h

theorem g_X5_laidOneAfterAnother_4 {sh : List (Nat × Nat)} {ν : Nat → Nat → Option Nat} {μ : Nat → Nat → Int} {f s : Nat} {Q : xQ} (hW : WF sh ν f s) {x1 : Int} {x2 : Int}
    (h : ((((μ) 207 3) ≤ x2 → Q (some (vI 1)) sh (ν) (μ)) ∧ (x2 < ((μ) 207 3) → (0 ≤ x2 ∧ x2 < (20 : Nat)) ∧ ((1 ≤ ((μ) 210 (Int.toNat x2)) → (0 ≤ x2 ∧ x2 < (20 : Nat)) ∧ (0 ≤ x2 ∧ x2 < (20 : Nat)) ∧ X mX5_laidOneAfterAnother 4 [(0, vR 207), (1, vI (w32 (x1 + ((μ) 210 (Int.toNat x2))))), (2, vI (w32 (x2 + 1)))] [] sh (ν) (up μ 209 (Int.toNat x2) x1) 0 0 Q) ∧ (((μ) 210 (Int.toNat x2)) < 1 → Q (some (vI 0)) sh (ν) (μ)))))) :
    X mX5_laidOneAfterAnother 4 [(0, vR 207), (1, vI x1), (2, vI x2)] [] sh ν μ 0 0 Q := by
  refine X.iload_n (pc := 4) (i := 2) 2 dX5_laidOneAfterAnother_4 rfl rfl ?_
  refine X.aload_n (pc := 5) (i := 0) 0 dX5_laidOneAfterAnother_5 rfl rfl ?_
  refine X.getI (pc := 6) dX5_laidOneAfterAnother_6 fl_X5_21 rfl (fs_X5 hW) ?_
  refine X.icmp_ge (pc := 9) 46 dX5_laidOneAfterAnother_9 (by decide) ⟨fun q9 => ?_, fun q9 => ?_⟩
  · have h := h.1 q9
    refine X.iconst (pc := 46) dX5_laidOneAfterAnother_46 ⟨by decide, by decide⟩ ?_
    exact X.zret (pc := 47) dX5_laidOneAfterAnother_47 rfl (by decide) (Nat.le_of_ble_eq_true rfl) (Nat.le_of_ble_eq_true rfl) h
  · have h := h.2 q9
    refine X.aload_n (pc := 12) (i := 0) 0 dX5_laidOneAfterAnother_12 rfl rfl ?_
    refine X.getR (pc := 13) (b := 210) dX5_laidOneAfterAnother_13 fl_X5_18 rfl (fs_X5 hW) (fp_X5_2 hW) ?_
    refine X.iload_n (pc := 16) (i := 2) 2 dX5_laidOneAfterAnother_16 rfl rfl ?_
    obtain ⟨c1, h⟩ := h
    refine X.iaload (pc := 17) dX5_laidOneAfterAnother_17 (fa_X5_2 hW) c1 ?_
    refine X.iconst (pc := 18) dX5_laidOneAfterAnother_18 ⟨by decide, by decide⟩ ?_
    refine X.icmp_ge (pc := 19) 24 dX5_laidOneAfterAnother_19 (by decide) ⟨fun q9 => ?_, fun q9 => ?_⟩
    · have h := h.1 q9
      refine X.aload_n (pc := 24) (i := 0) 0 dX5_laidOneAfterAnother_24 rfl rfl ?_
      refine X.getR (pc := 25) (b := 209) dX5_laidOneAfterAnother_25 fl_X5_15 rfl (fs_X5 hW) (fp_X5_1 hW) ?_
      refine X.iload_n (pc := 28) (i := 2) 2 dX5_laidOneAfterAnother_28 rfl rfl ?_
      refine X.iload_n (pc := 29) (i := 1) 1 dX5_laidOneAfterAnother_29 rfl rfl ?_
      obtain ⟨c2, h⟩ := h
      refine X.iastore (pc := 30) dX5_laidOneAfterAnother_30 (fa_X5_1 hW) c2 ?_
      refine X.iload_n (pc := 31) (i := 1) 1 dX5_laidOneAfterAnother_31 rfl rfl ?_
      refine X.aload_n (pc := 32) (i := 0) 0 dX5_laidOneAfterAnother_32 rfl rfl ?_
      refine X.getR (pc := 33) (b := 210) dX5_laidOneAfterAnother_33 fl_X5_18 rfl (fs_X5 hW) (fp_X5_2 hW) ?_
      refine X.iload_n (pc := 36) (i := 2) 2 dX5_laidOneAfterAnother_36 rfl rfl ?_
      obtain ⟨c3, h⟩ := h
      refine X.iaload (pc := 37) dX5_laidOneAfterAnother_37 (fa_X5_2 hW) c3 ?_
      refine X.topI (y := ((μ) 210 (Int.toNat x2))) ((up_a (by decide) _)) ?_
      refine X.iadd (pc := 38) dX5_laidOneAfterAnother_38 ?_
      refine X.istore_n (pc := 39) (i := 1) (ls' := [(1, vI (w32 (x1 + ((μ) 210 (Int.toNat x2))))), (0, vR 207), (2, vI x2)]) dX5_laidOneAfterAnother_39 rfl (by decide) rfl ?_
      refine X.iinc (pc := 40) (i := 2) (ls' := [(2, vI (w32 (x2 + 1))), (1, vI (w32 (x1 + ((μ) 210 (Int.toNat x2))))), (0, vR 207)]) 2 dX5_laidOneAfterAnother_40 rfl (by decide) rfl ?_
      refine X.goto (pc := 43) (tgt := 4) dX5_laidOneAfterAnother_43 (by decide) ?_
      exact X.pick [2, 1, 0] rfl h
    · have h := h.2 q9
      refine X.iconst (pc := 22) dX5_laidOneAfterAnother_22 ⟨by decide, by decide⟩ ?_
      exact X.zret (pc := 23) dX5_laidOneAfterAnother_23 rfl (by decide) (Nat.le_of_ble_eq_true rfl) (Nat.le_of_ble_eq_true rfl) h

theorem g_X6_empty_0 {sh : List (Nat × Nat)} {ν : Nat → Nat → Option Nat} {μ : Nat → Nat → Int} {f s : Nat} {Q : xQ} (hW : WF sh ν f s) {p0 : Nat} (hp0 : isParts p0)
    (h : Q none sh (ν) (up (up (up μ p0 3 0) p0 4 0) p0 5 0)) :
    X mX6_empty 0 [(0, vR p0)] [] sh ν μ 0 0 Q := by
  refine X.aload_n (pc := 0) (i := 0) 0 dX6_empty_0 rfl rfl ?_
  refine X.iconst (pc := 1) dX6_empty_1 ⟨by decide, by decide⟩ ?_
  refine X.putI (pc := 2) dX6_empty_2 fl_X6_21 rfl (fun h9 => by cases h9) (fs_X6 hW hp0) (Or.inl rfl) ?_
  refine X.aload_n (pc := 5) (i := 0) 0 dX6_empty_5 rfl rfl ?_
  refine X.iconst (pc := 6) dX6_empty_6 ⟨by decide, by decide⟩ ?_
  refine X.putI (pc := 7) dX6_empty_7 fl_X6_25 rfl (fun h9 => by cases h9) (fs_X6 hW hp0) (Or.inl rfl) ?_
  refine X.aload_n (pc := 10) (i := 0) 0 dX6_empty_10 rfl rfl ?_
  refine X.iconst (pc := 11) dX6_empty_11 ⟨by decide, by decide⟩ ?_
  refine X.putI (pc := 12) dX6_empty_12 fl_X6_28 rfl (fun h9 => by cases h9) (fs_X6 hW hp0) (Or.inl rfl) ?_
  exact X.vret (pc := 15) dX6_empty_15 rfl (Nat.le_of_ble_eq_true rfl) (Nat.le_of_ble_eq_true rfl) h

theorem g_X6_add_0 {sh : List (Nat × Nat)} {ν : Nat → Nat → Option Nat} {μ : Nat → Nat → Int} {f s : Nat} {Q : xQ} (hW : WF sh ν f s) {p0 : Nat} (hp0 : isParts p0) {x1 : Int} {x2 : Int} {x3 : Int}
    (h : ((((μ) p0 3) < 6 → (0 ≤ ((μ) p0 3) ∧ ((μ) p0 3) < (6 : Nat)) ∧ (0 ≤ ((μ) p0 3) ∧ ((μ) p0 3) < (6 : Nat)) ∧ (0 ≤ ((μ) p0 3) ∧ ((μ) p0 3) < (6 : Nat)) ∧ Q none sh (ν) (up (up (up (up (up (up μ (p0 + 1) (Int.toNat ((μ) p0 3)) x1) (p0 + 2) (Int.toNat ((μ) p0 3)) x2) (p0 + 3) (Int.toNat ((μ) p0 3)) x3) p0 4 (w32 (((μ) p0 4) + x2))) p0 5 (w32 (((μ) p0 5) + x3))) p0 3 (w32 (((μ) p0 3) + 1)))) ∧ (6 ≤ ((μ) p0 3) → Q none sh (ν) (μ)))) :
    X mX6_add 0 [(0, vR p0), (1, vI x1), (2, vI x2), (3, vI x3)] [] sh ν μ 0 0 Q := by
  refine X.aload_n (pc := 0) (i := 0) 0 dX6_add_0 rfl rfl ?_
  refine X.getI (pc := 1) dX6_add_1 fl_X6_21 rfl (fs_X6 hW hp0) ?_
  refine X.bipush (pc := 4) (y := 6) dX6_add_4 rfl ⟨by decide, by decide⟩ ?_
  refine X.icmp_lt (pc := 6) 10 dX6_add_6 (by decide) ⟨fun q9 => ?_, fun q9 => ?_⟩
  · have h := h.1 q9
    refine X.aload_n (pc := 10) (i := 0) 0 dX6_add_10 rfl rfl ?_
    refine X.getR (pc := 11) (b := (p0 + 1)) dX6_add_11 fl_X6_9 rfl (fs_X6 hW hp0) (fp_X6_0 hW hp0) ?_
    refine X.aload_n (pc := 14) (i := 0) 0 dX6_add_14 rfl rfl ?_
    refine X.getI (pc := 15) dX6_add_15 fl_X6_21 rfl (fs_X6 hW hp0) ?_
    refine X.iload_n (pc := 18) (i := 1) 1 dX6_add_18 rfl rfl ?_
    obtain ⟨c1, h⟩ := h
    refine X.iastore (pc := 19) dX6_add_19 (fa_X6_0 hW hp0) c1 ?_
    refine X.aload_n (pc := 20) (i := 0) 0 dX6_add_20 rfl rfl ?_
    refine X.getR (pc := 21) (b := (p0 + 2)) dX6_add_21 fl_X6_15 rfl (fs_X6 hW hp0) (fp_X6_1 hW hp0) ?_
    refine X.aload_n (pc := 24) (i := 0) 0 dX6_add_24 rfl rfl ?_
    refine X.getI (pc := 25) dX6_add_25 fl_X6_21 rfl (fs_X6 hW hp0) ?_
    refine X.topI (y := ((μ) p0 3)) ((up_a (by omega) _)) ?_
    refine X.iload_n (pc := 28) (i := 2) 2 dX6_add_28 rfl rfl ?_
    obtain ⟨c2, h⟩ := h
    refine X.iastore (pc := 29) dX6_add_29 (fa_X6_1 hW hp0) c2 ?_
    refine X.aload_n (pc := 30) (i := 0) 0 dX6_add_30 rfl rfl ?_
    refine X.getR (pc := 31) (b := (p0 + 3)) dX6_add_31 fl_X6_18 rfl (fs_X6 hW hp0) (fp_X6_2 hW hp0) ?_
    refine X.aload_n (pc := 34) (i := 0) 0 dX6_add_34 rfl rfl ?_
    refine X.getI (pc := 35) dX6_add_35 fl_X6_21 rfl (fs_X6 hW hp0) ?_
    refine X.topI (y := ((μ) p0 3)) (Eq.trans (up_a (by omega) _) ((up_a (by omega) _))) ?_
    refine X.iload_n (pc := 38) (i := 3) 3 dX6_add_38 rfl rfl ?_
    obtain ⟨c3, h⟩ := h
    refine X.iastore (pc := 39) dX6_add_39 (fa_X6_2 hW hp0) c3 ?_
    refine X.aload_n (pc := 40) (i := 0) 0 dX6_add_40 rfl rfl ?_
    refine X.dup (pc := 41) dX6_add_41 rfl ?_
    refine X.getI (pc := 42) dX6_add_42 fl_X6_25 rfl (fs_X6 hW hp0) ?_
    refine X.topI (y := ((μ) p0 4)) (Eq.trans (up_a (by omega) _) (Eq.trans (up_a (by omega) _) ((up_a (by omega) _)))) ?_
    refine X.iload_n (pc := 45) (i := 2) 2 dX6_add_45 rfl rfl ?_
    refine X.iadd (pc := 46) dX6_add_46 ?_
    refine X.putI (pc := 47) dX6_add_47 fl_X6_25 rfl (fun h9 => by cases h9) (fs_X6 hW hp0) (Or.inl rfl) ?_
    refine X.aload_n (pc := 50) (i := 0) 0 dX6_add_50 rfl rfl ?_
    refine X.dup (pc := 51) dX6_add_51 rfl ?_
    refine X.getI (pc := 52) dX6_add_52 fl_X6_28 rfl (fs_X6 hW hp0) ?_
    refine X.topI (y := ((μ) p0 5)) (Eq.trans (up_k (by decide) _) (Eq.trans (up_a (by omega) _) (Eq.trans (up_a (by omega) _) ((up_a (by omega) _))))) ?_
    refine X.iload_n (pc := 55) (i := 3) 3 dX6_add_55 rfl rfl ?_
    refine X.iadd (pc := 56) dX6_add_56 ?_
    refine X.putI (pc := 57) dX6_add_57 fl_X6_28 rfl (fun h9 => by cases h9) (fs_X6 hW hp0) (Or.inl rfl) ?_
    refine X.aload_n (pc := 60) (i := 0) 0 dX6_add_60 rfl rfl ?_
    refine X.dup (pc := 61) dX6_add_61 rfl ?_
    refine X.getI (pc := 62) dX6_add_62 fl_X6_21 rfl (fs_X6 hW hp0) ?_
    refine X.topI (y := ((μ) p0 3)) (Eq.trans (up_k (by decide) _) (Eq.trans (up_k (by decide) _) (Eq.trans (up_a (by omega) _) (Eq.trans (up_a (by omega) _) ((up_a (by omega) _)))))) ?_
    refine X.iconst (pc := 65) dX6_add_65 ⟨by decide, by decide⟩ ?_
    refine X.iadd (pc := 66) dX6_add_66 ?_
    refine X.putI (pc := 67) dX6_add_67 fl_X6_21 rfl (fun h9 => by cases h9) (fs_X6 hW hp0) (Or.inl rfl) ?_
    exact X.vret (pc := 70) dX6_add_70 rfl (Nat.le_of_ble_eq_true rfl) (Nat.le_of_ble_eq_true rfl) h
  · have h := h.2 q9
    exact X.vret (pc := 9) dX6_add_9 rfl (Nat.le_of_ble_eq_true rfl) (Nat.le_of_ble_eq_true rfl) h

theorem g_X7_limit_0 {sh : List (Nat × Nat)} {ν : Nat → Nat → Option Nat} {μ : Nat → Nat → Int} {f s : Nat} {Q : xQ} (hW : WF sh ν f s) {p0 : Nat} (hp0 : isRule p0) {x1 : Int} {x2 : Int} {x3 : Int}
    (h : ((x1 = 0 → Q none sh (ν) (up (up μ p0 5 x2) p0 6 x3)) ∧ (x1 ≠ 0 → Q none sh (ν) (up (up μ p0 7 x2) p0 8 x3)))) :
    X mX7_limit 0 [(0, vR p0), (1, vI x1), (2, vI x2), (3, vI x3)] [] sh ν μ 0 0 Q := by
  refine X.iload_n (pc := 0) (i := 1) 1 dX7_limit_0 rfl rfl ?_
  refine X.if_eq (pc := 1) 17 dX7_limit_1 (by decide) ⟨fun q9 => ?_, fun q9 => ?_⟩
  · have h := h.1 q9
    refine X.aload_n (pc := 17) (i := 0) 0 dX7_limit_17 rfl rfl ?_
    refine X.iload_n (pc := 18) (i := 2) 2 dX7_limit_18 rfl rfl ?_
    refine X.putI (pc := 19) dX7_limit_19 fl_X7_31 rfl (fun h9 => by cases h9) (fs_X7 hW hp0) (Or.inl rfl) ?_
    refine X.aload_n (pc := 22) (i := 0) 0 dX7_limit_22 rfl rfl ?_
    refine X.iload_n (pc := 23) (i := 3) 3 dX7_limit_23 rfl rfl ?_
    refine X.putI (pc := 24) dX7_limit_24 fl_X7_34 rfl (fun h9 => by cases h9) (fs_X7 hW hp0) (Or.inl rfl) ?_
    exact X.vret (pc := 27) dX7_limit_27 rfl (Nat.le_of_ble_eq_true rfl) (Nat.le_of_ble_eq_true rfl) h
  · have h := h.2 q9
    refine X.aload_n (pc := 4) (i := 0) 0 dX7_limit_4 rfl rfl ?_
    refine X.iload_n (pc := 5) (i := 2) 2 dX7_limit_5 rfl rfl ?_
    refine X.putI (pc := 6) dX7_limit_6 fl_X7_37 rfl (fun h9 => by cases h9) (fs_X7 hW hp0) (Or.inl rfl) ?_
    refine X.aload_n (pc := 9) (i := 0) 0 dX7_limit_9 rfl rfl ?_
    refine X.iload_n (pc := 10) (i := 3) 3 dX7_limit_10 rfl rfl ?_
    refine X.putI (pc := 11) dX7_limit_11 fl_X7_40 rfl (fun h9 => by cases h9) (fs_X7 hW hp0) (Or.inl rfl) ?_
    refine X.goto (pc := 14) (tgt := 27) dX7_limit_14 (by decide) ?_
    exact X.vret (pc := 27) dX7_limit_27 rfl (Nat.le_of_ble_eq_true rfl) (Nat.le_of_ble_eq_true rfl) h

theorem g_X7_isAlongY_0 {sh : List (Nat × Nat)} {ν : Nat → Nat → Option Nat} {μ : Nat → Nat → Int} {f s : Nat} {Q : xQ} (hW : WF sh ν f s) {p0 : Nat} (hp0 : isRule p0)
    (h : ((((μ) p0 2) = 2 → Q (some (vI 1)) sh (ν) (μ)) ∧ (((μ) p0 2) ≠ 2 → ((((μ) p0 2) ≠ 4 → Q (some (vI 0)) sh (ν) (μ)) ∧ (((μ) p0 2) = 4 → Q (some (vI 1)) sh (ν) (μ)))))) :
    X mX7_isAlongY 0 [(0, vR p0)] [] sh ν μ 0 0 Q := by
  refine X.aload_n (pc := 0) (i := 0) 0 dX7_isAlongY_0 rfl rfl ?_
  refine X.getI (pc := 1) dX7_isAlongY_1 fl_X7_22 rfl (fs_X7 hW hp0) ?_
  refine X.iconst (pc := 4) dX7_isAlongY_4 ⟨by decide, by decide⟩ ?_
  refine X.icmp_eq (pc := 5) 16 dX7_isAlongY_5 (by decide) ⟨fun q9 => ?_, fun q9 => ?_⟩
  · have h := h.1 q9
    refine X.iconst (pc := 16) dX7_isAlongY_16 ⟨by decide, by decide⟩ ?_
    refine X.goto (pc := 17) (tgt := 21) dX7_isAlongY_17 (by decide) ?_
    exact X.zret (pc := 21) dX7_isAlongY_21 rfl (by decide) (Nat.le_of_ble_eq_true rfl) (Nat.le_of_ble_eq_true rfl) h
  · have h := h.2 q9
    refine X.aload_n (pc := 8) (i := 0) 0 dX7_isAlongY_8 rfl rfl ?_
    refine X.getI (pc := 9) dX7_isAlongY_9 fl_X7_22 rfl (fs_X7 hW hp0) ?_
    refine X.iconst (pc := 12) dX7_isAlongY_12 ⟨by decide, by decide⟩ ?_
    refine X.icmp_ne (pc := 13) 20 dX7_isAlongY_13 (by decide) ⟨fun q9 => ?_, fun q9 => ?_⟩
    · have h := h.1 q9
      refine X.iconst (pc := 20) dX7_isAlongY_20 ⟨by decide, by decide⟩ ?_
      exact X.zret (pc := 21) dX7_isAlongY_21 rfl (by decide) (Nat.le_of_ble_eq_true rfl) (Nat.le_of_ble_eq_true rfl) h
    · have h := h.2 q9
      refine X.iconst (pc := 16) dX7_isAlongY_16 ⟨by decide, by decide⟩ ?_
      refine X.goto (pc := 17) (tgt := 21) dX7_isAlongY_17 (by decide) ?_
      exact X.zret (pc := 21) dX7_isAlongY_21 rfl (by decide) (Nat.le_of_ble_eq_true rfl) (Nat.le_of_ble_eq_true rfl) h

theorem g_X7_isRepeat_0 {sh : List (Nat × Nat)} {ν : Nat → Nat → Option Nat} {μ : Nat → Nat → Int} {f s : Nat} {Q : xQ} (hW : WF sh ν f s) {p0 : Nat} (hp0 : isRule p0)
    (h : ((((μ) p0 2) = 3 → Q (some (vI 1)) sh (ν) (μ)) ∧ (((μ) p0 2) ≠ 3 → ((((μ) p0 2) ≠ 4 → Q (some (vI 0)) sh (ν) (μ)) ∧ (((μ) p0 2) = 4 → Q (some (vI 1)) sh (ν) (μ)))))) :
    X mX7_isRepeat 0 [(0, vR p0)] [] sh ν μ 0 0 Q := by
  refine X.aload_n (pc := 0) (i := 0) 0 dX7_isRepeat_0 rfl rfl ?_
  refine X.getI (pc := 1) dX7_isRepeat_1 fl_X7_22 rfl (fs_X7 hW hp0) ?_
  refine X.iconst (pc := 4) dX7_isRepeat_4 ⟨by decide, by decide⟩ ?_
  refine X.icmp_eq (pc := 5) 16 dX7_isRepeat_5 (by decide) ⟨fun q9 => ?_, fun q9 => ?_⟩
  · have h := h.1 q9
    refine X.iconst (pc := 16) dX7_isRepeat_16 ⟨by decide, by decide⟩ ?_
    refine X.goto (pc := 17) (tgt := 21) dX7_isRepeat_17 (by decide) ?_
    exact X.zret (pc := 21) dX7_isRepeat_21 rfl (by decide) (Nat.le_of_ble_eq_true rfl) (Nat.le_of_ble_eq_true rfl) h
  · have h := h.2 q9
    refine X.aload_n (pc := 8) (i := 0) 0 dX7_isRepeat_8 rfl rfl ?_
    refine X.getI (pc := 9) dX7_isRepeat_9 fl_X7_22 rfl (fs_X7 hW hp0) ?_
    refine X.iconst (pc := 12) dX7_isRepeat_12 ⟨by decide, by decide⟩ ?_
    refine X.icmp_ne (pc := 13) 20 dX7_isRepeat_13 (by decide) ⟨fun q9 => ?_, fun q9 => ?_⟩
    · have h := h.1 q9
      refine X.iconst (pc := 20) dX7_isRepeat_20 ⟨by decide, by decide⟩ ?_
      exact X.zret (pc := 21) dX7_isRepeat_21 rfl (by decide) (Nat.le_of_ble_eq_true rfl) (Nat.le_of_ble_eq_true rfl) h
    · have h := h.2 q9
      refine X.iconst (pc := 16) dX7_isRepeat_16 ⟨by decide, by decide⟩ ?_
      refine X.goto (pc := 17) (tgt := 21) dX7_isRepeat_17 (by decide) ?_
      exact X.zret (pc := 21) dX7_isRepeat_21 rfl (by decide) (Nat.le_of_ble_eq_true rfl) (Nat.le_of_ble_eq_true rfl) h

theorem g_X7_weight_0 {sh : List (Nat × Nat)} {ν : Nat → Nat → Option Nat} {μ : Nat → Nat → Int} {f s : Nat} {Q : xQ} (hW : WF sh ν f s) {p0 : Nat} (hp0 : isRule p0)
    (h : Q (some (vL (w64 ((w64 (((μ) p0 3) * 1048576)) + 1)))) sh (ν) (μ)) :
    X mX7_weight 0 [(0, vR p0)] [] sh ν μ 0 0 Q := by
  refine X.aload_n (pc := 0) (i := 0) 0 dX7_weight_0 rfl rfl ?_
  refine X.getI (pc := 1) dX7_weight_1 fl_X7_25 rfl (fs_X7 hW hp0) ?_
  refine X.i2l (pc := 4) dX7_weight_4 ?_
  refine X.ldc2 (pc := 5) (y := 1048576) dX7_weight_5 kc_X7_54 rfl ⟨by decide, by decide⟩ ?_
  refine X.lmul (pc := 8) dX7_weight_8 ?_
  refine X.lconst (pc := 9) (y := 1) dX7_weight_9 rfl ⟨by decide, by decide⟩ ?_
  refine X.ladd (pc := 10) dX7_weight_10 ?_
  exact X.lret (pc := 11) dX7_weight_11 rfl (Nat.le_of_ble_eq_true rfl) (Nat.le_of_ble_eq_true rfl) h

theorem g_X8_push_0 {sh : List (Nat × Nat)} {ν : Nat → Nat → Option Nat} {μ : Nat → Nat → Int} {f s : Nat} {Q : xQ} (hW : WF sh ν f s) {x1 : Int} {x2 : Int} {x3 : Int} {x4 : Int} {x5 : Int} {x6 : Int} {x7 : Int}
    (h : ((((μ) 249 4) < 400 → (0 ≤ ((μ) 249 4) ∧ ((μ) 249 4) < (400 : Nat)) ∧ (0 ≤ ((μ) 249 4) ∧ ((μ) 249 4) < (400 : Nat)) ∧ (0 ≤ ((μ) 249 4) ∧ ((μ) 249 4) < (400 : Nat)) ∧ (0 ≤ ((μ) 249 4) ∧ ((μ) 249 4) < (400 : Nat)) ∧ (0 ≤ ((μ) 249 4) ∧ ((μ) 249 4) < (400 : Nat)) ∧ (0 ≤ ((μ) 249 4) ∧ ((μ) 249 4) < (400 : Nat)) ∧ (0 ≤ ((μ) 249 4) ∧ ((μ) 249 4) < (400 : Nat)) ∧ Q none sh (ν) (up (up (up (up (up (up (up (up μ 251 (Int.toNat ((μ) 249 4)) x1) 252 (Int.toNat ((μ) 249 4)) x2) 253 (Int.toNat ((μ) 249 4)) x3) 254 (Int.toNat ((μ) 249 4)) x4) 255 (Int.toNat ((μ) 249 4)) x5) 256 (Int.toNat ((μ) 249 4)) x6) 257 (Int.toNat ((μ) 249 4)) x7) 249 4 (w32 (((μ) 249 4) + 1)))) ∧ (400 ≤ ((μ) 249 4) → Q none sh (ν) (μ)))) :
    X mX8_push 0 [(0, vR 249), (1, vI x1), (2, vI x2), (3, vI x3), (4, vI x4), (5, vI x5), (6, vI x6), (7, vI x7)] [] sh ν μ 0 0 Q := by
  refine X.aload_n (pc := 0) (i := 0) 0 dX8_push_0 rfl rfl ?_
  refine X.getI (pc := 1) dX8_push_1 fl_X8_20 rfl (fs_X8 hW) ?_
  refine X.sipush (pc := 4) (y := 400) dX8_push_4 rfl ⟨by decide, by decide⟩ ?_
  refine X.icmp_lt (pc := 7) 11 dX8_push_7 (by decide) ⟨fun q9 => ?_, fun q9 => ?_⟩
  · have h := h.1 q9
    refine X.aload_n (pc := 11) (i := 0) 0 dX8_push_11 rfl rfl ?_
    refine X.getR (pc := 12) (b := 250) dX8_push_12 fl_X8_11 rfl (fs_X8 hW) (fp_X8_2 hW) ?_
    refine X.iconst (pc := 15) dX8_push_15 ⟨by decide, by decide⟩ ?_
    refine X.aaload (pc := 16) dX8_push_16 (fa_X8_2 hW) (Or.inr rfl) ⟨by decide, by decide⟩ (fe_pile0 hW) ?_
    refine X.aload_n (pc := 17) (i := 0) 0 dX8_push_17 rfl rfl ?_
    refine X.getI (pc := 18) dX8_push_18 fl_X8_20 rfl (fs_X8 hW) ?_
    refine X.iload_n (pc := 21) (i := 1) 1 dX8_push_21 rfl rfl ?_
    obtain ⟨c1, h⟩ := h
    refine X.iastore (pc := 22) dX8_push_22 (fz_pile0 hW) c1 ?_
    refine X.aload_n (pc := 23) (i := 0) 0 dX8_push_23 rfl rfl ?_
    refine X.getR (pc := 24) (b := 250) dX8_push_24 fl_X8_11 rfl (fs_X8 hW) (fp_X8_2 hW) ?_
    refine X.iconst (pc := 27) dX8_push_27 ⟨by decide, by decide⟩ ?_
    refine X.aaload (pc := 28) dX8_push_28 (fa_X8_2 hW) (Or.inr rfl) ⟨by decide, by decide⟩ (fe_pile1 hW) ?_
    refine X.aload_n (pc := 29) (i := 0) 0 dX8_push_29 rfl rfl ?_
    refine X.getI (pc := 30) dX8_push_30 fl_X8_20 rfl (fs_X8 hW) ?_
    refine X.topI (y := ((μ) 249 4)) ((up_a (by decide) _)) ?_
    refine X.iload_n (pc := 33) (i := 2) 2 dX8_push_33 rfl rfl ?_
    obtain ⟨c2, h⟩ := h
    refine X.iastore (pc := 34) dX8_push_34 (fz_pile1 hW) c2 ?_
    refine X.aload_n (pc := 35) (i := 0) 0 dX8_push_35 rfl rfl ?_
    refine X.getR (pc := 36) (b := 250) dX8_push_36 fl_X8_11 rfl (fs_X8 hW) (fp_X8_2 hW) ?_
    refine X.iconst (pc := 39) dX8_push_39 ⟨by decide, by decide⟩ ?_
    refine X.aaload (pc := 40) dX8_push_40 (fa_X8_2 hW) (Or.inr rfl) ⟨by decide, by decide⟩ (fe_pile2 hW) ?_
    refine X.aload_n (pc := 41) (i := 0) 0 dX8_push_41 rfl rfl ?_
    refine X.getI (pc := 42) dX8_push_42 fl_X8_20 rfl (fs_X8 hW) ?_
    refine X.topI (y := ((μ) 249 4)) (Eq.trans (up_a (by decide) _) ((up_a (by decide) _))) ?_
    refine X.iload_n (pc := 45) (i := 3) 3 dX8_push_45 rfl rfl ?_
    obtain ⟨c3, h⟩ := h
    refine X.iastore (pc := 46) dX8_push_46 (fz_pile2 hW) c3 ?_
    refine X.aload_n (pc := 47) (i := 0) 0 dX8_push_47 rfl rfl ?_
    refine X.getR (pc := 48) (b := 250) dX8_push_48 fl_X8_11 rfl (fs_X8 hW) (fp_X8_2 hW) ?_
    refine X.iconst (pc := 51) dX8_push_51 ⟨by decide, by decide⟩ ?_
    refine X.aaload (pc := 52) dX8_push_52 (fa_X8_2 hW) (Or.inr rfl) ⟨by decide, by decide⟩ (fe_pile3 hW) ?_
    refine X.aload_n (pc := 53) (i := 0) 0 dX8_push_53 rfl rfl ?_
    refine X.getI (pc := 54) dX8_push_54 fl_X8_20 rfl (fs_X8 hW) ?_
    refine X.topI (y := ((μ) 249 4)) (Eq.trans (up_a (by decide) _) (Eq.trans (up_a (by decide) _) ((up_a (by decide) _)))) ?_
    refine X.iload (pc := 57) (i := 4) 4 dX8_push_57 rfl ?_
    obtain ⟨c4, h⟩ := h
    refine X.iastore (pc := 59) dX8_push_59 (fz_pile3 hW) c4 ?_
    refine X.aload_n (pc := 60) (i := 0) 0 dX8_push_60 rfl rfl ?_
    refine X.getR (pc := 61) (b := 250) dX8_push_61 fl_X8_11 rfl (fs_X8 hW) (fp_X8_2 hW) ?_
    refine X.iconst (pc := 64) dX8_push_64 ⟨by decide, by decide⟩ ?_
    refine X.aaload (pc := 65) dX8_push_65 (fa_X8_2 hW) (Or.inr rfl) ⟨by decide, by decide⟩ (fe_pile4 hW) ?_
    refine X.aload_n (pc := 66) (i := 0) 0 dX8_push_66 rfl rfl ?_
    refine X.getI (pc := 67) dX8_push_67 fl_X8_20 rfl (fs_X8 hW) ?_
    refine X.topI (y := ((μ) 249 4)) (Eq.trans (up_a (by decide) _) (Eq.trans (up_a (by decide) _) (Eq.trans (up_a (by decide) _) ((up_a (by decide) _))))) ?_
    refine X.iload (pc := 70) (i := 5) 5 dX8_push_70 rfl ?_
    obtain ⟨c5, h⟩ := h
    refine X.iastore (pc := 72) dX8_push_72 (fz_pile4 hW) c5 ?_
    refine X.aload_n (pc := 73) (i := 0) 0 dX8_push_73 rfl rfl ?_
    refine X.getR (pc := 74) (b := 250) dX8_push_74 fl_X8_11 rfl (fs_X8 hW) (fp_X8_2 hW) ?_
    refine X.iconst (pc := 77) dX8_push_77 ⟨by decide, by decide⟩ ?_
    refine X.aaload (pc := 78) dX8_push_78 (fa_X8_2 hW) (Or.inr rfl) ⟨by decide, by decide⟩ (fe_pile5 hW) ?_
    refine X.aload_n (pc := 79) (i := 0) 0 dX8_push_79 rfl rfl ?_
    refine X.getI (pc := 80) dX8_push_80 fl_X8_20 rfl (fs_X8 hW) ?_
    refine X.topI (y := ((μ) 249 4)) (Eq.trans (up_a (by decide) _) (Eq.trans (up_a (by decide) _) (Eq.trans (up_a (by decide) _) (Eq.trans (up_a (by decide) _) ((up_a (by decide) _)))))) ?_
    refine X.iload (pc := 83) (i := 6) 6 dX8_push_83 rfl ?_
    obtain ⟨c6, h⟩ := h
    refine X.iastore (pc := 85) dX8_push_85 (fz_pile5 hW) c6 ?_
    refine X.aload_n (pc := 86) (i := 0) 0 dX8_push_86 rfl rfl ?_
    refine X.getR (pc := 87) (b := 250) dX8_push_87 fl_X8_11 rfl (fs_X8 hW) (fp_X8_2 hW) ?_
    refine X.bipush (pc := 90) (y := 6) dX8_push_90 rfl ⟨by decide, by decide⟩ ?_
    refine X.aaload (pc := 92) dX8_push_92 (fa_X8_2 hW) (Or.inr rfl) ⟨by decide, by decide⟩ (fe_pile6 hW) ?_
    refine X.aload_n (pc := 93) (i := 0) 0 dX8_push_93 rfl rfl ?_
    refine X.getI (pc := 94) dX8_push_94 fl_X8_20 rfl (fs_X8 hW) ?_
    refine X.topI (y := ((μ) 249 4)) (Eq.trans (up_a (by decide) _) (Eq.trans (up_a (by decide) _) (Eq.trans (up_a (by decide) _) (Eq.trans (up_a (by decide) _) (Eq.trans (up_a (by decide) _) ((up_a (by decide) _))))))) ?_
    refine X.iload (pc := 97) (i := 7) 7 dX8_push_97 rfl ?_
    obtain ⟨c7, h⟩ := h
    refine X.iastore (pc := 99) dX8_push_99 (fz_pile6 hW) c7 ?_
    refine X.aload_n (pc := 100) (i := 0) 0 dX8_push_100 rfl rfl ?_
    refine X.dup (pc := 101) dX8_push_101 rfl ?_
    refine X.getI (pc := 102) dX8_push_102 fl_X8_20 rfl (fs_X8 hW) ?_
    refine X.topI (y := ((μ) 249 4)) (Eq.trans (up_a (by decide) _) (Eq.trans (up_a (by decide) _) (Eq.trans (up_a (by decide) _) (Eq.trans (up_a (by decide) _) (Eq.trans (up_a (by decide) _) (Eq.trans (up_a (by decide) _) ((up_a (by decide) _)))))))) ?_
    refine X.iconst (pc := 105) dX8_push_105 ⟨by decide, by decide⟩ ?_
    refine X.iadd (pc := 106) dX8_push_106 ?_
    refine X.putI (pc := 107) dX8_push_107 fl_X8_20 rfl (fun h9 => by cases h9) (fs_X8 hW) (Or.inl rfl) ?_
    exact X.vret (pc := 110) dX8_push_110 rfl (Nat.le_of_ble_eq_true rfl) (Nat.le_of_ble_eq_true rfl) h
  · have h := h.2 q9
    exact X.vret (pc := 10) dX8_push_10 rfl (Nat.le_of_ble_eq_true rfl) (Nat.le_of_ble_eq_true rfl) h

theorem g_X8_next_0 {sh : List (Nat × Nat)} {ν : Nat → Nat → Option Nat} {μ : Nat → Nat → Int} {f s : Nat} {Q : xQ} (hW : WF sh ν f s) 
    (h : ((0 < ((μ) 249 4) → (0 ≤ (w32 (((μ) 249 4) - 1)) ∧ (w32 (((μ) 249 4) - 1)) < (400 : Nat)) ∧ (0 ≤ (w32 (((μ) 249 4) - 1)) ∧ (w32 (((μ) 249 4) - 1)) < (400 : Nat)) ∧ (0 ≤ (w32 (((μ) 249 4) - 1)) ∧ (w32 (((μ) 249 4) - 1)) < (400 : Nat)) ∧ (0 ≤ (w32 (((μ) 249 4) - 1)) ∧ (w32 (((μ) 249 4) - 1)) < (400 : Nat)) ∧ (0 ≤ (w32 (((μ) 249 4) - 1)) ∧ (w32 (((μ) 249 4) - 1)) < (400 : Nat)) ∧ (0 ≤ (w32 (((μ) 249 4) - 1)) ∧ (w32 (((μ) 249 4) - 1)) < (400 : Nat)) ∧ (0 ≤ (w32 (((μ) 249 4) - 1)) ∧ (w32 (((μ) 249 4) - 1)) < (400 : Nat)) ∧ Q (some (vI 1)) sh (ν) (up (up (up (up (up (up (up (up μ 249 4 (w32 (((μ) 249 4) - 1))) 249 5 ((μ) 251 (Int.toNat (w32 (((μ) 249 4) - 1))))) 249 6 ((μ) 252 (Int.toNat (w32 (((μ) 249 4) - 1))))) 249 7 ((μ) 253 (Int.toNat (w32 (((μ) 249 4) - 1))))) 249 8 ((μ) 254 (Int.toNat (w32 (((μ) 249 4) - 1))))) 249 9 ((μ) 255 (Int.toNat (w32 (((μ) 249 4) - 1))))) 249 10 ((μ) 256 (Int.toNat (w32 (((μ) 249 4) - 1))))) 249 11 ((μ) 257 (Int.toNat (w32 (((μ) 249 4) - 1)))))) ∧ (((μ) 249 4) ≤ 0 → Q (some (vI 0)) sh (ν) (μ)))) :
    X mX8_next 0 [(0, vR 249)] [] sh ν μ 0 0 Q := by
  refine X.aload_n (pc := 0) (i := 0) 0 dX8_next_0 rfl rfl ?_
  refine X.getI (pc := 1) dX8_next_1 fl_X8_20 rfl (fs_X8 hW) ?_
  refine X.if_gt (pc := 4) 9 dX8_next_4 (by decide) ⟨fun q9 => ?_, fun q9 => ?_⟩
  · have h := h.1 q9
    refine X.aload_n (pc := 9) (i := 0) 0 dX8_next_9 rfl rfl ?_
    refine X.dup (pc := 10) dX8_next_10 rfl ?_
    refine X.getI (pc := 11) dX8_next_11 fl_X8_20 rfl (fs_X8 hW) ?_
    refine X.iconst (pc := 14) dX8_next_14 ⟨by decide, by decide⟩ ?_
    refine X.isub (pc := 15) dX8_next_15 ?_
    refine X.putI (pc := 16) dX8_next_16 fl_X8_20 rfl (fun h9 => by cases h9) (fs_X8 hW) (Or.inl rfl) ?_
    refine X.aload_n (pc := 19) (i := 0) 0 dX8_next_19 rfl rfl ?_
    refine X.aload_n (pc := 20) (i := 0) 0 dX8_next_20 rfl rfl ?_
    refine X.getR (pc := 21) (b := 250) dX8_next_21 fl_X8_11 rfl (fs_X8 hW) (fp_X8_2 hW) ?_
    refine X.iconst (pc := 24) dX8_next_24 ⟨by decide, by decide⟩ ?_
    refine X.aaload (pc := 25) dX8_next_25 (fa_X8_2 hW) (Or.inr rfl) ⟨by decide, by decide⟩ (fe_pile0 hW) ?_
    refine X.aload_n (pc := 26) (i := 0) 0 dX8_next_26 rfl rfl ?_
    refine X.getI (pc := 27) dX8_next_27 fl_X8_20 rfl (fs_X8 hW) ?_
    refine X.topI (y := (w32 (((μ) 249 4) - 1))) ((up_s _ _ _ _)) ?_
    obtain ⟨c1, h⟩ := h
    refine X.iaload (pc := 30) dX8_next_30 (fz_pile0 hW) c1 ?_
    refine X.topI (y := ((μ) 251 (Int.toNat (w32 (((μ) 249 4) - 1))))) ((up_a (by decide) _)) ?_
    refine X.putI (pc := 31) dX8_next_31 fl_X8_24 rfl (fun h9 => by cases h9) (fs_X8 hW) (Or.inl rfl) ?_
    refine X.aload_n (pc := 34) (i := 0) 0 dX8_next_34 rfl rfl ?_
    refine X.aload_n (pc := 35) (i := 0) 0 dX8_next_35 rfl rfl ?_
    refine X.getR (pc := 36) (b := 250) dX8_next_36 fl_X8_11 rfl (fs_X8 hW) (fp_X8_2 hW) ?_
    refine X.iconst (pc := 39) dX8_next_39 ⟨by decide, by decide⟩ ?_
    refine X.aaload (pc := 40) dX8_next_40 (fa_X8_2 hW) (Or.inr rfl) ⟨by decide, by decide⟩ (fe_pile1 hW) ?_
    refine X.aload_n (pc := 41) (i := 0) 0 dX8_next_41 rfl rfl ?_
    refine X.getI (pc := 42) dX8_next_42 fl_X8_20 rfl (fs_X8 hW) ?_
    refine X.topI (y := (w32 (((μ) 249 4) - 1))) (Eq.trans (up_k (by decide) _) ((up_s _ _ _ _))) ?_
    obtain ⟨c2, h⟩ := h
    refine X.iaload (pc := 45) dX8_next_45 (fz_pile1 hW) c2 ?_
    refine X.topI (y := ((μ) 252 (Int.toNat (w32 (((μ) 249 4) - 1))))) (Eq.trans (up_a (by decide) _) ((up_a (by decide) _))) ?_
    refine X.putI (pc := 46) dX8_next_46 fl_X8_27 rfl (fun h9 => by cases h9) (fs_X8 hW) (Or.inl rfl) ?_
    refine X.aload_n (pc := 49) (i := 0) 0 dX8_next_49 rfl rfl ?_
    refine X.aload_n (pc := 50) (i := 0) 0 dX8_next_50 rfl rfl ?_
    refine X.getR (pc := 51) (b := 250) dX8_next_51 fl_X8_11 rfl (fs_X8 hW) (fp_X8_2 hW) ?_
    refine X.iconst (pc := 54) dX8_next_54 ⟨by decide, by decide⟩ ?_
    refine X.aaload (pc := 55) dX8_next_55 (fa_X8_2 hW) (Or.inr rfl) ⟨by decide, by decide⟩ (fe_pile2 hW) ?_
    refine X.aload_n (pc := 56) (i := 0) 0 dX8_next_56 rfl rfl ?_
    refine X.getI (pc := 57) dX8_next_57 fl_X8_20 rfl (fs_X8 hW) ?_
    refine X.topI (y := (w32 (((μ) 249 4) - 1))) (Eq.trans (up_k (by decide) _) (Eq.trans (up_k (by decide) _) ((up_s _ _ _ _)))) ?_
    obtain ⟨c3, h⟩ := h
    refine X.iaload (pc := 60) dX8_next_60 (fz_pile2 hW) c3 ?_
    refine X.topI (y := ((μ) 253 (Int.toNat (w32 (((μ) 249 4) - 1))))) (Eq.trans (up_a (by decide) _) (Eq.trans (up_a (by decide) _) ((up_a (by decide) _)))) ?_
    refine X.putI (pc := 61) dX8_next_61 fl_X8_30 rfl (fun h9 => by cases h9) (fs_X8 hW) (Or.inl rfl) ?_
    refine X.aload_n (pc := 64) (i := 0) 0 dX8_next_64 rfl rfl ?_
    refine X.aload_n (pc := 65) (i := 0) 0 dX8_next_65 rfl rfl ?_
    refine X.getR (pc := 66) (b := 250) dX8_next_66 fl_X8_11 rfl (fs_X8 hW) (fp_X8_2 hW) ?_
    refine X.iconst (pc := 69) dX8_next_69 ⟨by decide, by decide⟩ ?_
    refine X.aaload (pc := 70) dX8_next_70 (fa_X8_2 hW) (Or.inr rfl) ⟨by decide, by decide⟩ (fe_pile3 hW) ?_
    refine X.aload_n (pc := 71) (i := 0) 0 dX8_next_71 rfl rfl ?_
    refine X.getI (pc := 72) dX8_next_72 fl_X8_20 rfl (fs_X8 hW) ?_
    refine X.topI (y := (w32 (((μ) 249 4) - 1))) (Eq.trans (up_k (by decide) _) (Eq.trans (up_k (by decide) _) (Eq.trans (up_k (by decide) _) ((up_s _ _ _ _))))) ?_
    obtain ⟨c4, h⟩ := h
    refine X.iaload (pc := 75) dX8_next_75 (fz_pile3 hW) c4 ?_
    refine X.topI (y := ((μ) 254 (Int.toNat (w32 (((μ) 249 4) - 1))))) (Eq.trans (up_a (by decide) _) (Eq.trans (up_a (by decide) _) (Eq.trans (up_a (by decide) _) ((up_a (by decide) _))))) ?_
    refine X.putI (pc := 76) dX8_next_76 fl_X8_33 rfl (fun h9 => by cases h9) (fs_X8 hW) (Or.inl rfl) ?_
    refine X.aload_n (pc := 79) (i := 0) 0 dX8_next_79 rfl rfl ?_
    refine X.aload_n (pc := 80) (i := 0) 0 dX8_next_80 rfl rfl ?_
    refine X.getR (pc := 81) (b := 250) dX8_next_81 fl_X8_11 rfl (fs_X8 hW) (fp_X8_2 hW) ?_
    refine X.iconst (pc := 84) dX8_next_84 ⟨by decide, by decide⟩ ?_
    refine X.aaload (pc := 85) dX8_next_85 (fa_X8_2 hW) (Or.inr rfl) ⟨by decide, by decide⟩ (fe_pile4 hW) ?_
    refine X.aload_n (pc := 86) (i := 0) 0 dX8_next_86 rfl rfl ?_
    refine X.getI (pc := 87) dX8_next_87 fl_X8_20 rfl (fs_X8 hW) ?_
    refine X.topI (y := (w32 (((μ) 249 4) - 1))) (Eq.trans (up_k (by decide) _) (Eq.trans (up_k (by decide) _) (Eq.trans (up_k (by decide) _) (Eq.trans (up_k (by decide) _) ((up_s _ _ _ _)))))) ?_
    obtain ⟨c5, h⟩ := h
    refine X.iaload (pc := 90) dX8_next_90 (fz_pile4 hW) c5 ?_
    refine X.topI (y := ((μ) 255 (Int.toNat (w32 (((μ) 249 4) - 1))))) (Eq.trans (up_a (by decide) _) (Eq.trans (up_a (by decide) _) (Eq.trans (up_a (by decide) _) (Eq.trans (up_a (by decide) _) ((up_a (by decide) _)))))) ?_
    refine X.putI (pc := 91) dX8_next_91 fl_X8_36 rfl (fun h9 => by cases h9) (fs_X8 hW) (Or.inl rfl) ?_
    refine X.aload_n (pc := 94) (i := 0) 0 dX8_next_94 rfl rfl ?_
    refine X.aload_n (pc := 95) (i := 0) 0 dX8_next_95 rfl rfl ?_
    refine X.getR (pc := 96) (b := 250) dX8_next_96 fl_X8_11 rfl (fs_X8 hW) (fp_X8_2 hW) ?_
    refine X.iconst (pc := 99) dX8_next_99 ⟨by decide, by decide⟩ ?_
    refine X.aaload (pc := 100) dX8_next_100 (fa_X8_2 hW) (Or.inr rfl) ⟨by decide, by decide⟩ (fe_pile5 hW) ?_
    refine X.aload_n (pc := 101) (i := 0) 0 dX8_next_101 rfl rfl ?_
    refine X.getI (pc := 102) dX8_next_102 fl_X8_20 rfl (fs_X8 hW) ?_
    refine X.topI (y := (w32 (((μ) 249 4) - 1))) (Eq.trans (up_k (by decide) _) (Eq.trans (up_k (by decide) _) (Eq.trans (up_k (by decide) _) (Eq.trans (up_k (by decide) _) (Eq.trans (up_k (by decide) _) ((up_s _ _ _ _))))))) ?_
    obtain ⟨c6, h⟩ := h
    refine X.iaload (pc := 105) dX8_next_105 (fz_pile5 hW) c6 ?_
    refine X.topI (y := ((μ) 256 (Int.toNat (w32 (((μ) 249 4) - 1))))) (Eq.trans (up_a (by decide) _) (Eq.trans (up_a (by decide) _) (Eq.trans (up_a (by decide) _) (Eq.trans (up_a (by decide) _) (Eq.trans (up_a (by decide) _) ((up_a (by decide) _))))))) ?_
    refine X.putI (pc := 106) dX8_next_106 fl_X8_39 rfl (fun h9 => by cases h9) (fs_X8 hW) (Or.inl rfl) ?_
    refine X.aload_n (pc := 109) (i := 0) 0 dX8_next_109 rfl rfl ?_
    refine X.aload_n (pc := 110) (i := 0) 0 dX8_next_110 rfl rfl ?_
    refine X.getR (pc := 111) (b := 250) dX8_next_111 fl_X8_11 rfl (fs_X8 hW) (fp_X8_2 hW) ?_
    refine X.bipush (pc := 114) (y := 6) dX8_next_114 rfl ⟨by decide, by decide⟩ ?_
    refine X.aaload (pc := 116) dX8_next_116 (fa_X8_2 hW) (Or.inr rfl) ⟨by decide, by decide⟩ (fe_pile6 hW) ?_
    refine X.aload_n (pc := 117) (i := 0) 0 dX8_next_117 rfl rfl ?_
    refine X.getI (pc := 118) dX8_next_118 fl_X8_20 rfl (fs_X8 hW) ?_
    refine X.topI (y := (w32 (((μ) 249 4) - 1))) (Eq.trans (up_k (by decide) _) (Eq.trans (up_k (by decide) _) (Eq.trans (up_k (by decide) _) (Eq.trans (up_k (by decide) _) (Eq.trans (up_k (by decide) _) (Eq.trans (up_k (by decide) _) ((up_s _ _ _ _)))))))) ?_
    obtain ⟨c7, h⟩ := h
    refine X.iaload (pc := 121) dX8_next_121 (fz_pile6 hW) c7 ?_
    refine X.topI (y := ((μ) 257 (Int.toNat (w32 (((μ) 249 4) - 1))))) (Eq.trans (up_a (by decide) _) (Eq.trans (up_a (by decide) _) (Eq.trans (up_a (by decide) _) (Eq.trans (up_a (by decide) _) (Eq.trans (up_a (by decide) _) (Eq.trans (up_a (by decide) _) ((up_a (by decide) _)))))))) ?_
    refine X.putI (pc := 122) dX8_next_122 fl_X8_42 rfl (fun h9 => by cases h9) (fs_X8 hW) (Or.inl rfl) ?_
    refine X.iconst (pc := 125) dX8_next_125 ⟨by decide, by decide⟩ ?_
    exact X.zret (pc := 126) dX8_next_126 rfl (by decide) (Nat.le_of_ble_eq_true rfl) (Nat.le_of_ble_eq_true rfl) h
  · have h := h.2 q9
    refine X.iconst (pc := 7) dX8_next_7 ⟨by decide, by decide⟩ ?_
    exact X.zret (pc := 8) dX8_next_8 rfl (by decide) (Nat.le_of_ble_eq_true rfl) (Nat.le_of_ble_eq_true rfl) h

theorem g_X9_step_0 {sh : List (Nat × Nat)} {ν : Nat → Nat → Option Nat} {μ : Nat → Nat → Int} {f s : Nat} {Q : xQ} (hW : WF sh ν f s) {x1 : Int}
    (h : ((x1 < 0 → Q (some (vI (-9))) sh (ν) (μ)) ∧ (0 ≤ x1 → ((x1 < ((μ) f 4) → (0 ≤ x1 ∧ x1 < (8000 : Nat)) ∧ Q (some (vI ((μ) (f + 2) (Int.toNat x1)))) sh (ν) (μ)) ∧ (((μ) f 4) ≤ x1 → Q (some (vI (-9))) sh (ν) (μ)))))) :
    X mX9_step 0 [(0, vR 0), (1, vI x1)] [] sh ν μ 0 0 Q := by
  refine X.iload_n (pc := 0) (i := 1) 1 dX9_step_0 rfl rfl ?_
  refine X.if_lt (pc := 1) 15 dX9_step_1 (by decide) ⟨fun q9 => ?_, fun q9 => ?_⟩
  · have h := h.1 q9
    refine X.bipush (pc := 15) (y := -9) dX9_step_15 rfl ⟨by decide, by decide⟩ ?_
    exact X.iret (pc := 17) dX9_step_17 rfl (Nat.le_of_ble_eq_true rfl) (Nat.le_of_ble_eq_true rfl) h
  · have h := h.2 q9
    refine X.iload_n (pc := 4) (i := 1) 1 dX9_step_4 rfl rfl ?_
    refine X.aload_n (pc := 5) (i := 0) 0 dX9_step_5 rfl rfl ?_
    refine X.getR (pc := 6) (b := f) dX9_step_6 fl_X9_54 rfl (fs_X9 hW) (fp_X9_6 hW) ?_
    refine X.getI (pc := 9) dX9_step_9 fl_X9_164 rfl (fs_X2 hW (wf_f hW)) ?_
    refine X.icmp_lt (pc := 12) 18 dX9_step_12 (by decide) ⟨fun q9 => ?_, fun q9 => ?_⟩
    · have h := h.1 q9
      refine X.aload_n (pc := 18) (i := 0) 0 dX9_step_18 rfl rfl ?_
      refine X.getR (pc := 19) (b := f) dX9_step_19 fl_X9_54 rfl (fs_X9 hW) (fp_X9_6 hW) ?_
      refine X.getR (pc := 22) (b := (f + 2)) dX9_step_22 fl_X9_175 rfl (fs_X2 hW (wf_f hW)) (fp_X2_1 hW (wf_f hW)) ?_
      refine X.iload_n (pc := 25) (i := 1) 1 dX9_step_25 rfl rfl ?_
      obtain ⟨c1, h⟩ := h
      refine X.baload (pc := 26) dX9_step_26 (fa_X2_1 hW (wf_f hW)) c1 ?_
      exact X.iret (pc := 27) dX9_step_27 rfl (Nat.le_of_ble_eq_true rfl) (Nat.le_of_ble_eq_true rfl) h
    · have h := h.2 q9
      refine X.bipush (pc := 15) (y := -9) dX9_step_15 rfl ⟨by decide, by decide⟩ ?_
      exact X.iret (pc := 17) dX9_step_17 rfl (Nat.le_of_ble_eq_true rfl) (Nat.le_of_ble_eq_true rfl) h

theorem g_X9_drawn_0 {sh : List (Nat × Nat)} {ν : Nat → Nat → Option Nat} {μ : Nat → Nat → Int} {f s : Nat} {Q : xQ} (hW : WF sh ν f s) 
    (h : ((((μ) f 2) ≠ 0 → Q (some (vI ((μ) f 5))) sh (ν) (μ)) ∧ (((μ) f 2) = 0 → Q (some (vI (-9))) sh (ν) (μ)))) :
    X mX9_drawn 0 [(0, vR 0)] [] sh ν μ 0 0 Q := by
  refine X.aload_n (pc := 0) (i := 0) 0 dX9_drawn_0 rfl rfl ?_
  refine X.getR (pc := 1) (b := f) dX9_drawn_1 fl_X9_54 rfl (fs_X9 hW) (fp_X9_6 hW) ?_
  refine X.getI (pc := 4) dX9_drawn_4 fl_X9_165 rfl (fs_X2 hW (wf_f hW)) ?_
  refine X.if_ne (pc := 7) 15 dX9_drawn_7 (by decide) ⟨fun q9 => ?_, fun q9 => ?_⟩
  · have h := h.1 q9
    refine X.aload_n (pc := 15) (i := 0) 0 dX9_drawn_15 rfl rfl ?_
    refine X.getR (pc := 16) (b := f) dX9_drawn_16 fl_X9_54 rfl (fs_X9 hW) (fp_X9_6 hW) ?_
    refine X.getI (pc := 19) dX9_drawn_19 fl_X9_178 rfl (fs_X2 hW (wf_f hW)) ?_
    exact X.iret (pc := 22) dX9_drawn_22 rfl (Nat.le_of_ble_eq_true rfl) (Nat.le_of_ble_eq_true rfl) h
  · have h := h.2 q9
    refine X.bipush (pc := 10) (y := -9) dX9_drawn_10 rfl ⟨by decide, by decide⟩ ?_
    refine X.goto (pc := 12) (tgt := 22) dX9_drawn_12 (by decide) ?_
    exact X.iret (pc := 22) dX9_drawn_22 rfl (Nat.le_of_ble_eq_true rfl) (Nat.le_of_ble_eq_true rfl) h

theorem g_X9_fault_0 {sh : List (Nat × Nat)} {ν : Nat → Nat → Option Nat} {μ : Nat → Nat → Int} {f s : Nat} {Q : xQ} (hW : WF sh ν f s) 
    (h : Q (some (vI ((μ) 0 8))) sh (ν) (μ)) :
    X mX9_fault 0 [(0, vR 0)] [] sh ν μ 0 0 Q := by
  refine X.aload_n (pc := 0) (i := 0) 0 dX9_fault_0 rfl rfl ?_
  refine X.getI (pc := 1) dX9_fault_1 fl_X9_61 rfl (fs_X9 hW) ?_
  exact X.iret (pc := 4) dX9_fault_4 rfl (Nat.le_of_ble_eq_true rfl) (Nat.le_of_ble_eq_true rfl) h

theorem g_X9_count_0 {sh : List (Nat × Nat)} {ν : Nat → Nat → Option Nat} {μ : Nat → Nat → Int} {f s : Nat} {Q : xQ} (hW : WF sh ν f s) {x1 : Int}
    (h : ((x1 = 0 → Q (some (vI ((μ) 1 2))) sh (ν) (μ)) ∧ (x1 = 1 → Q (some (vI ((μ) 3 3))) sh (ν) (μ)) ∧ (x1 = 2 → Q (some (vI ((μ) 211 1))) sh (ν) (μ)) ∧ (x1 = 3 → Q (some (vI ((μ) 211 2))) sh (ν) (μ)) ∧ (x1 = 4 → Q (some (vI ((μ) f 2))) sh (ν) (μ)) ∧ (x1 = 5 → Q (some (vI ((μ) f 3))) sh (ν) (μ)) ∧ (x1 < 0 ∨ 5 < x1 → Q (some (vI (-2))) sh (ν) (μ)))) :
    X mX9_count 0 [(0, vR 0), (1, vI x1)] [] sh ν μ 0 0 Q := by
  refine X.iload_n (pc := 0) (i := 1) 1 dX9_count_0 rfl rfl ?_
  rcases Classical.em (0 ≤ x1 ∧ x1 ≤ 5) with q9 | q9
  · have q8 : x1 = 0 ∨ x1 = 1 ∨ x1 = 2 ∨ x1 = 3 ∨ x1 = 4 ∨ x1 = 5 := by omega
    rcases q8 with q8 | q8 | q8 | q8 | q8 | q8
    · have h := h.1 q8
      refine X.tsIn (pc := 1) (off := 39) 40 dX9_count_1 q9.1 q9.2 (by rw [q8]; rfl) (by decide) ?_
      refine X.aload_n (pc := 40) (i := 0) 0 dX9_count_40 rfl rfl ?_
      refine X.getR (pc := 41) (b := 1) dX9_count_41 fl_X9_12 rfl (fs_X9 hW) (fp_X9_0 hW) ?_
      refine X.getI (pc := 44) dX9_count_44 fl_X9_121 rfl (fs_X3 hW) ?_
      exact X.iret (pc := 47) dX9_count_47 rfl (Nat.le_of_ble_eq_true rfl) (Nat.le_of_ble_eq_true rfl) h
    · have h := h.2.1 q8
      refine X.tsIn (pc := 1) (off := 47) 48 dX9_count_1 q9.1 q9.2 (by rw [q8]; rfl) (by decide) ?_
      refine X.aload_n (pc := 48) (i := 0) 0 dX9_count_48 rfl rfl ?_
      refine X.getR (pc := 49) (b := 1) dX9_count_49 fl_X9_12 rfl (fs_X9 hW) (fp_X9_0 hW) ?_
      refine X.getR (pc := 52) (b := 3) dX9_count_52 fl_X9_87 rfl (fs_X3 hW) (fp_X3_1 hW) ?_
      refine X.getI (pc := 55) dX9_count_55 fl_X9_91 rfl (fs_X6 hW mk_coll) ?_
      exact X.iret (pc := 58) dX9_count_58 rfl (Nat.le_of_ble_eq_true rfl) (Nat.le_of_ble_eq_true rfl) h
    · have h := h.2.2.1 q8
      refine X.tsIn (pc := 1) (off := 58) 59 dX9_count_1 q9.1 q9.2 (by rw [q8]; rfl) (by decide) ?_
      refine X.aload_n (pc := 59) (i := 0) 0 dX9_count_59 rfl rfl ?_
      refine X.getR (pc := 60) (b := 211) dX9_count_60 fl_X9_26 rfl (fs_X9 hW) (fp_X9_2 hW) ?_
      refine X.getI (pc := 63) dX9_count_63 fl_X9_216 rfl (fs_X0 hW) ?_
      exact X.iret (pc := 66) dX9_count_66 rfl (Nat.le_of_ble_eq_true rfl) (Nat.le_of_ble_eq_true rfl) h
    · have h := h.2.2.2.1 q8
      refine X.tsIn (pc := 1) (off := 66) 67 dX9_count_1 q9.1 q9.2 (by rw [q8]; rfl) (by decide) ?_
      refine X.aload_n (pc := 67) (i := 0) 0 dX9_count_67 rfl rfl ?_
      refine X.getR (pc := 68) (b := 211) dX9_count_68 fl_X9_26 rfl (fs_X9 hW) (fp_X9_2 hW) ?_
      refine X.getI (pc := 71) dX9_count_71 fl_X9_217 rfl (fs_X0 hW) ?_
      exact X.iret (pc := 74) dX9_count_74 rfl (Nat.le_of_ble_eq_true rfl) (Nat.le_of_ble_eq_true rfl) h
    · have h := h.2.2.2.2.1 q8
      refine X.tsIn (pc := 1) (off := 74) 75 dX9_count_1 q9.1 q9.2 (by rw [q8]; rfl) (by decide) ?_
      refine X.aload_n (pc := 75) (i := 0) 0 dX9_count_75 rfl rfl ?_
      refine X.getR (pc := 76) (b := f) dX9_count_76 fl_X9_54 rfl (fs_X9 hW) (fp_X9_6 hW) ?_
      refine X.getI (pc := 79) dX9_count_79 fl_X9_165 rfl (fs_X2 hW (wf_f hW)) ?_
      exact X.iret (pc := 82) dX9_count_82 rfl (Nat.le_of_ble_eq_true rfl) (Nat.le_of_ble_eq_true rfl) h
    · have h := h.2.2.2.2.2.1 q8
      refine X.tsIn (pc := 1) (off := 82) 83 dX9_count_1 q9.1 q9.2 (by rw [q8]; rfl) (by decide) ?_
      refine X.aload_n (pc := 83) (i := 0) 0 dX9_count_83 rfl rfl ?_
      refine X.getR (pc := 84) (b := f) dX9_count_84 fl_X9_54 rfl (fs_X9 hW) (fp_X9_6 hW) ?_
      refine X.getI (pc := 87) dX9_count_87 fl_X9_168 rfl (fs_X2 hW (wf_f hW)) ?_
      exact X.iret (pc := 90) dX9_count_90 rfl (Nat.le_of_ble_eq_true rfl) (Nat.le_of_ble_eq_true rfl) h
  · have q8 : x1 < 0 ∨ 5 < x1 := by omega
    have h := h.2.2.2.2.2.2 q8
    refine X.tsOut (pc := 1) 91 dX9_count_1 q8 (by decide) ?_
    refine X.bipush (pc := 91) (y := -2) dX9_count_91 rfl ⟨by decide, by decide⟩ ?_
    exact X.iret (pc := 93) dX9_count_93 rfl (Nat.le_of_ble_eq_true rfl) (Nat.le_of_ble_eq_true rfl) h

theorem g_X9_forgetParses_0 {sh : List (Nat × Nat)} {ν : Nat → Nat → Option Nat} {μ : Nat → Nat → Int} {f s : Nat} {Q : xQ} (hW : WF sh ν f s) 
    (h : Q none sh (ν) (up (up μ 213 13 1) 231 13 1)) :
    X mX9_forgetParses 0 [(0, vR 0)] [] sh ν μ 0 0 Q := by
  refine X.aload_n (pc := 0) (i := 0) 0 dX9_forgetParses_0 rfl rfl ?_
  refine X.getR (pc := 1) (b := 213) dX9_forgetParses_1 fl_X9_35 rfl (fs_X9 hW) (fp_X9_3 hW) ?_
  refine X.iconst (pc := 4) dX9_forgetParses_4 ⟨by decide, by decide⟩ ?_
  refine X.putI (pc := 5) dX9_forgetParses_5 fl_X9_185 rfl (fun h9 => by cases h9) (fs_X1 hW mk_free) (Or.inr (Or.inr rfl)) ?_
  refine X.aload_n (pc := 8) (i := 0) 0 dX9_forgetParses_8 rfl rfl ?_
  refine X.getR (pc := 9) (b := 231) dX9_forgetParses_9 fl_X9_39 rfl (fs_X9 hW) (fp_X9_4 hW) ?_
  refine X.iconst (pc := 12) dX9_forgetParses_12 ⟨by decide, by decide⟩ ?_
  refine X.putI (pc := 13) dX9_forgetParses_13 fl_X9_185 rfl (fun h9 => by cases h9) (fs_X1 hW mk_bound) (Or.inr (Or.inr rfl)) ?_
  exact X.vret (pc := 16) dX9_forgetParses_16 rfl (Nat.le_of_ble_eq_true rfl) (Nat.le_of_ble_eq_true rfl) h

theorem g_X9_isWithin_0 {sh : List (Nat × Nat)} {ν : Nat → Nat → Option Nat} {μ : Nat → Nat → Int} {f s : Nat} {Q : xQ} (hW : WF sh ν f s) {x0 : Int} {x1 : Int} {x2 : Int}
    (h : ((x0 < x1 → Q (some (vI 0)) sh (ν) (μ)) ∧ (x1 ≤ x0 → ((x2 < x0 → Q (some (vI 0)) sh (ν) (μ)) ∧ (x0 ≤ x2 → Q (some (vI 1)) sh (ν) (μ)))))) :
    X mX9_isWithin 0 [(0, vI x0), (1, vI x1), (2, vI x2)] [] sh ν μ 0 0 Q := by
  refine X.iload_n (pc := 0) (i := 0) 0 dX9_isWithin_0 rfl rfl ?_
  refine X.iload_n (pc := 1) (i := 1) 1 dX9_isWithin_1 rfl rfl ?_
  refine X.icmp_lt (pc := 2) 14 dX9_isWithin_2 (by decide) ⟨fun q9 => ?_, fun q9 => ?_⟩
  · have h := h.1 q9
    refine X.iconst (pc := 14) dX9_isWithin_14 ⟨by decide, by decide⟩ ?_
    exact X.zret (pc := 15) dX9_isWithin_15 rfl (by decide) (Nat.le_of_ble_eq_true rfl) (Nat.le_of_ble_eq_true rfl) h
  · have h := h.2 q9
    refine X.iload_n (pc := 5) (i := 0) 0 dX9_isWithin_5 rfl rfl ?_
    refine X.iload_n (pc := 6) (i := 2) 2 dX9_isWithin_6 rfl rfl ?_
    refine X.icmp_gt (pc := 7) 14 dX9_isWithin_7 (by decide) ⟨fun q9 => ?_, fun q9 => ?_⟩
    · have h := h.1 q9
      refine X.iconst (pc := 14) dX9_isWithin_14 ⟨by decide, by decide⟩ ?_
      exact X.zret (pc := 15) dX9_isWithin_15 rfl (by decide) (Nat.le_of_ble_eq_true rfl) (Nat.le_of_ble_eq_true rfl) h
    · have h := h.2 q9
      refine X.iconst (pc := 10) dX9_isWithin_10 ⟨by decide, by decide⟩ ?_
      refine X.goto (pc := 11) (tgt := 15) dX9_isWithin_11 (by decide) ?_
      exact X.zret (pc := 15) dX9_isWithin_15 rfl (by decide) (Nat.le_of_ble_eq_true rfl) (Nat.le_of_ble_eq_true rfl) h

theorem g_X10_in_0 {sh : List (Nat × Nat)} {ν : Nat → Nat → Option Nat} {μ : Nat → Nat → Int} {f s : Nat} {Q : xQ} (hW : WF sh ν f s) {x0 : Int} {x2 : Int} {x4 : Int}
    (h : ((x0 < x2 → Q (some (vI 0)) sh (ν) (μ)) ∧ (x2 ≤ x0 → ((x4 < x0 → Q (some (vI 0)) sh (ν) (μ)) ∧ (x0 ≤ x4 → Q (some (vI 1)) sh (ν) (μ)))))) :
    X mX10_in 0 [(0, vL x0), (2, vL x2), (4, vL x4)] [] sh ν μ 0 0 Q := by
  refine X.lload_n (pc := 0) (i := 0) 0 dX10_in_0 rfl rfl ?_
  refine X.lload_n (pc := 1) (i := 2) 1 dX10_in_1 rfl rfl ?_
  refine X.lcmp (pc := 2) dX10_in_2 ?_
  refine X.if_lt (pc := 3) 17 dX10_in_3 (by decide) ⟨fun q9 => ?_, fun q9 => ?_⟩
  · have h := h.1 (xl_lt.mp q9)
    refine X.iconst (pc := 17) dX10_in_17 ⟨by decide, by decide⟩ ?_
    exact X.zret (pc := 18) dX10_in_18 rfl (by decide) (Nat.le_of_ble_eq_true rfl) (Nat.le_of_ble_eq_true rfl) h
  · have h := h.2 (xl_ge.mp q9)
    refine X.lload_n (pc := 6) (i := 0) 0 dX10_in_6 rfl rfl ?_
    refine X.lload (pc := 7) (i := 4) 2 dX10_in_7 rfl ?_
    refine X.lcmp (pc := 9) dX10_in_9 ?_
    refine X.if_gt (pc := 10) 17 dX10_in_10 (by decide) ⟨fun q9 => ?_, fun q9 => ?_⟩
    · have h := h.1 (xl_gt.mp q9)
      refine X.iconst (pc := 17) dX10_in_17 ⟨by decide, by decide⟩ ?_
      exact X.zret (pc := 18) dX10_in_18 rfl (by decide) (Nat.le_of_ble_eq_true rfl) (Nat.le_of_ble_eq_true rfl) h
    · have h := h.2 (xl_le.mp q9)
      refine X.iconst (pc := 13) dX10_in_13 ⟨by decide, by decide⟩ ?_
      refine X.goto (pc := 14) (tgt := 18) dX10_in_14 (by decide) ?_
      exact X.zret (pc := 18) dX10_in_18 rfl (by decide) (Nat.le_of_ble_eq_true rfl) (Nat.le_of_ble_eq_true rfl) h

theorem g_X10_addPart_0 {sh : List (Nat × Nat)} {ν : Nat → Nat → Option Nat} {μ : Nat → Nat → Int} {f s : Nat} {Q : xQ} (hW : WF sh ν f s) {x1 : Int} {x2 : Int} {x3 : Int} {x4 : Int}
    (h : (0 ≤ x1 ∧ x1 < (40 : Nat)) ∧ (0 ≤ (w32 ((w32 (6 * x1)) + ((μ) 270 (Int.toNat x1)))) ∧ (w32 ((w32 (6 * x1)) + ((μ) 270 (Int.toNat x1)))) < (240 : Nat)) ∧ (0 ≤ (w32 ((w32 (6 * x1)) + ((μ) 270 (Int.toNat x1)))) ∧ (w32 ((w32 (6 * x1)) + ((μ) 270 (Int.toNat x1)))) < (240 : Nat)) ∧ (0 ≤ (w32 ((w32 (6 * x1)) + ((μ) 270 (Int.toNat x1)))) ∧ (w32 ((w32 (6 * x1)) + ((μ) 270 (Int.toNat x1)))) < (240 : Nat)) ∧ (x4 = 0 ∨ x4 = 1) ∧ (0 ≤ x1 ∧ x1 < (40 : Nat)) ∧ (0 ≤ x1 ∧ x1 < (40 : Nat)) ∧ Q none sh (ν) (up (up (up (up μ 271 (Int.toNat (w32 ((w32 (6 * x1)) + ((μ) 270 (Int.toNat x1))))) x2) 272 (Int.toNat (w32 ((w32 (6 * x1)) + ((μ) 270 (Int.toNat x1))))) x3) 273 (Int.toNat (w32 ((w32 (6 * x1)) + ((μ) 270 (Int.toNat x1))))) x4) 270 (Int.toNat x1) (w32 (((μ) 270 (Int.toNat x1)) + 1)))) :
    X mX10_addPart 0 [(0, vR 265), (1, vI x1), (2, vI x2), (3, vI x3), (4, vI x4)] [] sh ν μ 0 0 Q := by
  refine X.bipush (pc := 0) (y := 6) dX10_addPart_0 rfl ⟨by decide, by decide⟩ ?_
  refine X.iload_n (pc := 2) (i := 1) 1 dX10_addPart_2 rfl rfl ?_
  refine X.imul (pc := 3) dX10_addPart_3 ?_
  refine X.aload_n (pc := 4) (i := 0) 0 dX10_addPart_4 rfl rfl ?_
  refine X.getR (pc := 5) (b := 270) dX10_addPart_5 fl_X10_22 rfl (fs_X10 hW) (fp_X10_5 hW) ?_
  refine X.iload_n (pc := 8) (i := 1) 1 dX10_addPart_8 rfl rfl ?_
  obtain ⟨c1, h⟩ := h
  refine X.iaload (pc := 9) dX10_addPart_9 (fa_X10_5 hW) c1 ?_
  refine X.iadd (pc := 10) dX10_addPart_10 ?_
  refine X.istore (pc := 11) (i := 5) (ls' := [(5, vI (w32 ((w32 (6 * x1)) + ((μ) 270 (Int.toNat x1))))), (0, vR 265), (1, vI x1), (2, vI x2), (3, vI x3), (4, vI x4)]) dX10_addPart_11 (by decide) rfl ?_
  refine X.aload_n (pc := 13) (i := 0) 1 dX10_addPart_13 rfl rfl ?_
  refine X.getR (pc := 14) (b := 271) dX10_addPart_14 fl_X10_25 rfl (fs_X10 hW) (fp_X10_6 hW) ?_
  refine X.iload (pc := 17) (i := 5) 0 dX10_addPart_17 rfl ?_
  refine X.iload_n (pc := 19) (i := 2) 3 dX10_addPart_19 rfl rfl ?_
  obtain ⟨c2, h⟩ := h
  refine X.iastore (pc := 20) dX10_addPart_20 (fa_X10_6 hW) c2 ?_
  refine X.aload_n (pc := 21) (i := 0) 1 dX10_addPart_21 rfl rfl ?_
  refine X.getR (pc := 22) (b := 272) dX10_addPart_22 fl_X10_28 rfl (fs_X10 hW) (fp_X10_7 hW) ?_
  refine X.iload (pc := 25) (i := 5) 0 dX10_addPart_25 rfl ?_
  refine X.iload_n (pc := 27) (i := 3) 4 dX10_addPart_27 rfl rfl ?_
  obtain ⟨c3, h⟩ := h
  refine X.iastore (pc := 28) dX10_addPart_28 (fa_X10_7 hW) c3 ?_
  refine X.aload_n (pc := 29) (i := 0) 1 dX10_addPart_29 rfl rfl ?_
  refine X.getR (pc := 30) (b := 273) dX10_addPart_30 fl_X10_31 rfl (fs_X10 hW) (fp_X10_8 hW) ?_
  refine X.iload (pc := 33) (i := 5) 0 dX10_addPart_33 rfl ?_
  refine X.iload (pc := 35) (i := 4) 5 dX10_addPart_35 rfl ?_
  obtain ⟨c4, h⟩ := h
  obtain ⟨c5, h⟩ := h
  refine X.zastore (pc := 37) dX10_addPart_37 (fa_X10_8 hW) c4 c5 ?_
  refine X.aload_n (pc := 38) (i := 0) 1 dX10_addPart_38 rfl rfl ?_
  refine X.getR (pc := 39) (b := 270) dX10_addPart_39 fl_X10_22 rfl (fs_X10 hW) (fp_X10_5 hW) ?_
  refine X.iload_n (pc := 42) (i := 1) 2 dX10_addPart_42 rfl rfl ?_
  refine X.dup2 (pc := 43) dX10_addPart_43 rfl rfl ?_
  obtain ⟨c6, h⟩ := h
  refine X.iaload (pc := 44) dX10_addPart_44 (fa_X10_5 hW) c6 ?_
  refine X.topI (y := ((μ) 270 (Int.toNat x1))) (Eq.trans (up_a (by decide) _) (Eq.trans (up_a (by decide) _) ((up_a (by decide) _)))) ?_
  refine X.iconst (pc := 45) dX10_addPart_45 ⟨by decide, by decide⟩ ?_
  refine X.iadd (pc := 46) dX10_addPart_46 ?_
  obtain ⟨c7, h⟩ := h
  refine X.iastore (pc := 47) dX10_addPart_47 (fa_X10_5 hW) c7 ?_
  exact X.vret (pc := 48) dX10_addPart_48 rfl (Nat.le_of_ble_eq_true rfl) (Nat.le_of_ble_eq_true rfl) h

theorem g_X10_isAlongY_0 {sh : List (Nat × Nat)} {ν : Nat → Nat → Option Nat} {μ : Nat → Nat → Int} {f s : Nat} {Q : xQ} (hW : WF sh ν f s) {x1 : Int}
    (h : (0 ≤ x1 ∧ x1 < (40 : Nat)) ∧ ((((μ) 267 (Int.toNat x1)) = 2 → Q (some (vI 1)) sh (ν) (μ)) ∧ (((μ) 267 (Int.toNat x1)) ≠ 2 → (0 ≤ x1 ∧ x1 < (40 : Nat)) ∧ ((((μ) 267 (Int.toNat x1)) ≠ 4 → Q (some (vI 0)) sh (ν) (μ)) ∧ (((μ) 267 (Int.toNat x1)) = 4 → Q (some (vI 1)) sh (ν) (μ)))))) :
    X mX10_isAlongY 0 [(0, vR 265), (1, vI x1)] [] sh ν μ 0 0 Q := by
  refine X.aload_n (pc := 0) (i := 0) 0 dX10_isAlongY_0 rfl rfl ?_
  refine X.getR (pc := 1) (b := 267) dX10_isAlongY_1 fl_X10_13 rfl (fs_X10 hW) (fp_X10_2 hW) ?_
  refine X.iload_n (pc := 4) (i := 1) 1 dX10_isAlongY_4 rfl rfl ?_
  obtain ⟨c1, h⟩ := h
  refine X.iaload (pc := 5) dX10_isAlongY_5 (fa_X10_2 hW) c1 ?_
  refine X.iconst (pc := 6) dX10_isAlongY_6 ⟨by decide, by decide⟩ ?_
  refine X.icmp_eq (pc := 7) 20 dX10_isAlongY_7 (by decide) ⟨fun q9 => ?_, fun q9 => ?_⟩
  · have h := h.1 q9
    refine X.iconst (pc := 20) dX10_isAlongY_20 ⟨by decide, by decide⟩ ?_
    refine X.goto (pc := 21) (tgt := 25) dX10_isAlongY_21 (by decide) ?_
    exact X.zret (pc := 25) dX10_isAlongY_25 rfl (by decide) (Nat.le_of_ble_eq_true rfl) (Nat.le_of_ble_eq_true rfl) h
  · have h := h.2 q9
    refine X.aload_n (pc := 10) (i := 0) 0 dX10_isAlongY_10 rfl rfl ?_
    refine X.getR (pc := 11) (b := 267) dX10_isAlongY_11 fl_X10_13 rfl (fs_X10 hW) (fp_X10_2 hW) ?_
    refine X.iload_n (pc := 14) (i := 1) 1 dX10_isAlongY_14 rfl rfl ?_
    obtain ⟨c2, h⟩ := h
    refine X.iaload (pc := 15) dX10_isAlongY_15 (fa_X10_2 hW) c2 ?_
    refine X.iconst (pc := 16) dX10_isAlongY_16 ⟨by decide, by decide⟩ ?_
    refine X.icmp_ne (pc := 17) 24 dX10_isAlongY_17 (by decide) ⟨fun q9 => ?_, fun q9 => ?_⟩
    · have h := h.1 q9
      refine X.iconst (pc := 24) dX10_isAlongY_24 ⟨by decide, by decide⟩ ?_
      exact X.zret (pc := 25) dX10_isAlongY_25 rfl (by decide) (Nat.le_of_ble_eq_true rfl) (Nat.le_of_ble_eq_true rfl) h
    · have h := h.2 q9
      refine X.iconst (pc := 20) dX10_isAlongY_20 ⟨by decide, by decide⟩ ?_
      refine X.goto (pc := 21) (tgt := 25) dX10_isAlongY_21 (by decide) ?_
      exact X.zret (pc := 25) dX10_isAlongY_25 rfl (by decide) (Nat.le_of_ble_eq_true rfl) (Nat.le_of_ble_eq_true rfl) h

theorem g_X10_layRepeat_0 {sh : List (Nat × Nat)} {ν : Nat → Nat → Option Nat} {μ : Nat → Nat → Int} {f s : Nat} {Q : xQ} (hW : WF sh ν f s) {x1 : Int} {x2 : Int}
    (h : (0 ≤ (w32 (6 * x1)) ∧ (w32 (6 * x1)) < (240 : Nat)) ∧ (((μ) 272 (Int.toNat (w32 (6 * x1)))) ≠ 0) ∧ (((w32 (Int.tdiv x2 ((μ) 272 (Int.toNat (w32 (6 * x1)))))) ≤ 0 → X mX10_layRepeat 36 [(0, vR 265), (1, vI x1), (3, vI ((μ) 272 (Int.toNat (w32 (6 * x1)))))] [vI 0] sh (ν) (up μ 265 14 (w32 (Int.tdiv x2 ((μ) 272 (Int.toNat (w32 (6 * x1))))))) 0 0 Q) ∧ (0 < (w32 (Int.tdiv x2 ((μ) 272 (Int.toNat (w32 (6 * x1)))))) → X mX10_layRepeat 36 [(0, vR 265), (1, vI x1), (3, vI ((μ) 272 (Int.toNat (w32 (6 * x1)))))] [vI (w32 (x2 - (w32 ((w32 (Int.tdiv x2 ((μ) 272 (Int.toNat (w32 (6 * x1)))))) * ((μ) 272 (Int.toNat (w32 (6 * x1))))))))] sh (ν) (up μ 265 14 (w32 (Int.tdiv x2 ((μ) 272 (Int.toNat (w32 (6 * x1))))))) 0 0 Q))) :
    X mX10_layRepeat 0 [(0, vR 265), (1, vI x1), (2, vI x2)] [] sh ν μ 0 0 Q := by
  refine X.aload_n (pc := 0) (i := 0) 0 dX10_layRepeat_0 rfl rfl ?_
  refine X.getR (pc := 1) (b := 272) dX10_layRepeat_1 fl_X10_28 rfl (fs_X10 hW) (fp_X10_7 hW) ?_
  refine X.bipush (pc := 4) (y := 6) dX10_layRepeat_4 rfl ⟨by decide, by decide⟩ ?_
  refine X.iload_n (pc := 6) (i := 1) 1 dX10_layRepeat_6 rfl rfl ?_
  refine X.imul (pc := 7) dX10_layRepeat_7 ?_
  obtain ⟨c1, h⟩ := h
  refine X.iaload (pc := 8) dX10_layRepeat_8 (fa_X10_7 hW) c1 ?_
  refine X.istore_n (pc := 9) (i := 3) (ls' := [(3, vI ((μ) 272 (Int.toNat (w32 (6 * x1))))), (0, vR 265), (1, vI x1), (2, vI x2)]) dX10_layRepeat_9 rfl (by decide) rfl ?_
  refine X.aload_n (pc := 10) (i := 0) 1 dX10_layRepeat_10 rfl rfl ?_
  refine X.iload_n (pc := 11) (i := 2) 3 dX10_layRepeat_11 rfl rfl ?_
  refine X.iload_n (pc := 12) (i := 3) 0 dX10_layRepeat_12 rfl rfl ?_
  obtain ⟨c2, h⟩ := h
  refine X.idiv (pc := 13) dX10_layRepeat_13 c2 ?_
  refine X.putI (pc := 14) dX10_layRepeat_14 fl_X10_173 rfl (fun h9 => by cases h9) (fs_X10 hW) (Or.inl rfl) ?_
  refine X.aload_n (pc := 17) (i := 0) 1 dX10_layRepeat_17 rfl rfl ?_
  refine X.getI (pc := 18) dX10_layRepeat_18 fl_X10_173 rfl (fs_X10 hW) ?_
  refine X.topI (y := (w32 (Int.tdiv x2 ((μ) 272 (Int.toNat (w32 (6 * x1))))))) ((up_s _ _ _ _)) ?_
  refine X.if_le (pc := 21) 35 dX10_layRepeat_21 (by decide) ⟨fun q9 => ?_, fun q9 => ?_⟩
  · have h := h.1 q9
    refine X.iconst (pc := 35) dX10_layRepeat_35 ⟨by decide, by decide⟩ ?_
    exact X.pick [1, 2, 0] rfl h
  · have h := h.2 q9
    refine X.iload_n (pc := 24) (i := 2) 3 dX10_layRepeat_24 rfl rfl ?_
    refine X.aload_n (pc := 25) (i := 0) 1 dX10_layRepeat_25 rfl rfl ?_
    refine X.getI (pc := 26) dX10_layRepeat_26 fl_X10_173 rfl (fs_X10 hW) ?_
    refine X.topI (y := (w32 (Int.tdiv x2 ((μ) 272 (Int.toNat (w32 (6 * x1))))))) ((up_s _ _ _ _)) ?_
    refine X.iload_n (pc := 29) (i := 3) 0 dX10_layRepeat_29 rfl rfl ?_
    refine X.imul (pc := 30) dX10_layRepeat_30 ?_
    refine X.isub (pc := 31) dX10_layRepeat_31 ?_
    refine X.goto (pc := 32) (tgt := 36) dX10_layRepeat_32 (by decide) ?_
    exact X.pick [1, 2, 0] rfl h

theorem g_X10_layRepeat_36 {sh : List (Nat × Nat)} {ν : Nat → Nat → Option Nat} {μ : Nat → Nat → Int} {f s : Nat} {Q : xQ} (hW : WF sh ν f s) {x1 : Int} {x3 : Int} {y0 : Int}
    (h : X mX10_layRepeat 44 [(0, vR 265), (1, vI x1), (3, vI x3), (4, vI y0), (5, vI 0), (6, vI 0)] [] sh (ν) (μ) 0 0 Q) :
    X mX10_layRepeat 36 [(0, vR 265), (1, vI x1), (3, vI x3)] [vI y0] sh ν μ 0 0 Q := by
  refine X.istore (pc := 36) (i := 4) (ls' := [(4, vI y0), (0, vR 265), (1, vI x1), (3, vI x3)]) dX10_layRepeat_36 (by decide) rfl ?_
  refine X.iconst (pc := 38) dX10_layRepeat_38 ⟨by decide, by decide⟩ ?_
  refine X.istore (pc := 39) (i := 5) (ls' := [(5, vI 0), (4, vI y0), (0, vR 265), (1, vI x1), (3, vI x3)]) dX10_layRepeat_39 (by decide) rfl ?_
  refine X.iconst (pc := 41) dX10_layRepeat_41 ⟨by decide, by decide⟩ ?_
  refine X.istore (pc := 42) (i := 6) (ls' := [(6, vI 0), (5, vI 0), (4, vI y0), (0, vR 265), (1, vI x1), (3, vI x3)]) dX10_layRepeat_42 (by decide) rfl ?_
  exact X.pick [3, 4, 5, 2, 1, 0] rfl h

theorem g_X10_layRepeat_44 {sh : List (Nat × Nat)} {ν : Nat → Nat → Option Nat} {μ : Nat → Nat → Int} {f s : Nat} {Q : xQ} (hW : WF sh ν f s) {x1 : Int} {x3 : Int} {x4 : Int} {x5 : Int} {x6 : Int}
    (h : ((((μ) 265 14) ≤ x6 → ((((μ) 265 14) ≤ 0 → Q (some (vI 0)) sh (ν) (μ)) ∧ (0 < ((μ) 265 14) → Q (some (vI 1)) sh (ν) (μ)))) ∧ (x6 < ((μ) 265 14) → (0 ≤ x6 ∧ x6 < (20 : Nat)) ∧ (((μ) 265 14) ≠ 0) ∧ (((μ) 265 14) ≠ 0) ∧ (((w32 (Int.tmod x4 ((μ) 265 14))) ≤ x6 → X mX10_layRepeat 94 [(0, vR 265), (1, vI x1), (3, vI x3), (4, vI x4), (5, vI x5), (6, vI x6)] [vI 0, vI (w32 (x3 + (w32 (Int.tdiv x4 ((μ) 265 14))))), vI x6, vR 279] sh (ν) (up μ 278 (Int.toNat x6) x5) 0 0 Q) ∧ (x6 < (w32 (Int.tmod x4 ((μ) 265 14))) → X mX10_layRepeat 94 [(0, vR 265), (1, vI x1), (3, vI x3), (4, vI x4), (5, vI x5), (6, vI x6)] [vI 1, vI (w32 (x3 + (w32 (Int.tdiv x4 ((μ) 265 14))))), vI x6, vR 279] sh (ν) (up μ 278 (Int.toNat x6) x5) 0 0 Q))))) :
    X mX10_layRepeat 44 [(0, vR 265), (1, vI x1), (3, vI x3), (4, vI x4), (5, vI x5), (6, vI x6)] [] sh ν μ 0 0 Q := by
  refine X.iload (pc := 44) (i := 6) 5 dX10_layRepeat_44 rfl ?_
  refine X.aload_n (pc := 46) (i := 0) 0 dX10_layRepeat_46 rfl rfl ?_
  refine X.getI (pc := 47) dX10_layRepeat_47 fl_X10_173 rfl (fs_X10 hW) ?_
  refine X.icmp_ge (pc := 50) 130 dX10_layRepeat_50 (by decide) ⟨fun q9 => ?_, fun q9 => ?_⟩
  · have h := h.1 q9
    refine X.aload_n (pc := 130) (i := 0) 0 dX10_layRepeat_130 rfl rfl ?_
    refine X.getI (pc := 131) dX10_layRepeat_131 fl_X10_173 rfl (fs_X10 hW) ?_
    refine X.if_le (pc := 134) 141 dX10_layRepeat_134 (by decide) ⟨fun q9 => ?_, fun q9 => ?_⟩
    · have h := h.1 q9
      refine X.iconst (pc := 141) dX10_layRepeat_141 ⟨by decide, by decide⟩ ?_
      exact X.zret (pc := 142) dX10_layRepeat_142 rfl (by decide) (Nat.le_of_ble_eq_true rfl) (Nat.le_of_ble_eq_true rfl) h
    · have h := h.2 q9
      refine X.iconst (pc := 137) dX10_layRepeat_137 ⟨by decide, by decide⟩ ?_
      refine X.goto (pc := 138) (tgt := 142) dX10_layRepeat_138 (by decide) ?_
      exact X.zret (pc := 142) dX10_layRepeat_142 rfl (by decide) (Nat.le_of_ble_eq_true rfl) (Nat.le_of_ble_eq_true rfl) h
  · have h := h.2 q9
    refine X.aload_n (pc := 53) (i := 0) 0 dX10_layRepeat_53 rfl rfl ?_
    refine X.getR (pc := 54) (b := 278) dX10_layRepeat_54 fl_X10_47 rfl (fs_X10 hW) (fp_X10_15 hW) ?_
    refine X.iload (pc := 57) (i := 6) 5 dX10_layRepeat_57 rfl ?_
    refine X.iload (pc := 59) (i := 5) 4 dX10_layRepeat_59 rfl ?_
    obtain ⟨c1, h⟩ := h
    refine X.iastore (pc := 61) dX10_layRepeat_61 (fa_X10_15 hW) c1 ?_
    refine X.aload_n (pc := 62) (i := 0) 0 dX10_layRepeat_62 rfl rfl ?_
    refine X.getR (pc := 63) (b := 279) dX10_layRepeat_63 fl_X10_50 rfl (fs_X10 hW) (fp_X10_16 hW) ?_
    refine X.iload (pc := 66) (i := 6) 5 dX10_layRepeat_66 rfl ?_
    refine X.iload_n (pc := 68) (i := 3) 2 dX10_layRepeat_68 rfl rfl ?_
    refine X.iload (pc := 69) (i := 4) 3 dX10_layRepeat_69 rfl ?_
    refine X.aload_n (pc := 71) (i := 0) 0 dX10_layRepeat_71 rfl rfl ?_
    refine X.getI (pc := 72) dX10_layRepeat_72 fl_X10_173 rfl (fs_X10 hW) ?_
    refine X.topI (y := ((μ) 265 14)) ((up_a (by decide) _)) ?_
    obtain ⟨c2, h⟩ := h
    refine X.idiv (pc := 75) dX10_layRepeat_75 c2 ?_
    refine X.iadd (pc := 76) dX10_layRepeat_76 ?_
    refine X.iload (pc := 77) (i := 6) 5 dX10_layRepeat_77 rfl ?_
    refine X.iload (pc := 79) (i := 4) 3 dX10_layRepeat_79 rfl ?_
    refine X.aload_n (pc := 81) (i := 0) 0 dX10_layRepeat_81 rfl rfl ?_
    refine X.getI (pc := 82) dX10_layRepeat_82 fl_X10_173 rfl (fs_X10 hW) ?_
    refine X.topI (y := ((μ) 265 14)) ((up_a (by decide) _)) ?_
    obtain ⟨c3, h⟩ := h
    refine X.irem (pc := 85) dX10_layRepeat_85 c3 ?_
    refine X.icmp_ge (pc := 86) 93 dX10_layRepeat_86 (by decide) ⟨fun q9 => ?_, fun q9 => ?_⟩
    · have h := h.1 q9
      refine X.iconst (pc := 93) dX10_layRepeat_93 ⟨by decide, by decide⟩ ?_
      exact h
    · have h := h.2 q9
      refine X.iconst (pc := 89) dX10_layRepeat_89 ⟨by decide, by decide⟩ ?_
      refine X.goto (pc := 90) (tgt := 94) dX10_layRepeat_90 (by decide) ?_
      exact h

theorem g_X10_layRepeat_94 {sh : List (Nat × Nat)} {ν : Nat → Nat → Option Nat} {μ : Nat → Nat → Int} {f s : Nat} {Q : xQ} (hW : WF sh ν f s) {x1 : Int} {x3 : Int} {x4 : Int} {x5 : Int} {x6 : Int} {q0 nq0 : Nat} (hq0 : sh[q0]? = some (0, nq0)) {y1 : Int} {y2 : Int} {y3 : Int}
    (h : (0 ≤ y1 ∧ y1 < (nq0 : Nat)) ∧ (0 ≤ (w32 (6 * x1)) ∧ (w32 (6 * x1)) < (240 : Nat)) ∧ (0 ≤ x6 ∧ x6 < (20 : Nat)) ∧ (0 ≤ x6 ∧ x6 < (20 : Nat)) ∧ X mX10_layRepeat 44 [(0, vR 265), (1, vI x1), (3, vI x3), (4, vI x4), (5, vI (w32 (x5 + ((up μ q0 (Int.toNat y1) (w32 (y2 + y3))) 279 (Int.toNat x6))))), (6, vI (w32 (x6 + 1)))] [] sh (ν) (up (up μ q0 (Int.toNat y1) (w32 (y2 + y3))) 280 (Int.toNat x6) ((up μ q0 (Int.toNat y1) (w32 (y2 + y3))) 271 (Int.toNat (w32 (6 * x1))))) 0 0 Q) :
    X mX10_layRepeat 94 [(0, vR 265), (1, vI x1), (3, vI x3), (4, vI x4), (5, vI x5), (6, vI x6)] [vI y3, vI y2, vI y1, vR q0] sh ν μ 0 0 Q := by
  refine X.iadd (pc := 94) dX10_layRepeat_94 ?_
  obtain ⟨c1, h⟩ := h
  refine X.iastore (pc := 95) dX10_layRepeat_95 hq0 c1 ?_
  refine X.aload_n (pc := 96) (i := 0) 0 dX10_layRepeat_96 rfl rfl ?_
  refine X.getR (pc := 97) (b := 280) dX10_layRepeat_97 fl_X10_53 rfl (fs_X10 hW) (fp_X10_17 hW) ?_
  refine X.iload (pc := 100) (i := 6) 5 dX10_layRepeat_100 rfl ?_
  refine X.aload_n (pc := 102) (i := 0) 0 dX10_layRepeat_102 rfl rfl ?_
  refine X.getR (pc := 103) (b := 271) dX10_layRepeat_103 fl_X10_25 rfl (fs_X10 hW) (fp_X10_6 hW) ?_
  refine X.bipush (pc := 106) (y := 6) dX10_layRepeat_106 rfl ⟨by decide, by decide⟩ ?_
  refine X.iload_n (pc := 108) (i := 1) 1 dX10_layRepeat_108 rfl rfl ?_
  refine X.imul (pc := 109) dX10_layRepeat_109 ?_
  obtain ⟨c2, h⟩ := h
  refine X.iaload (pc := 110) dX10_layRepeat_110 (fa_X10_6 hW) c2 ?_
  obtain ⟨c3, h⟩ := h
  refine X.iastore (pc := 111) dX10_layRepeat_111 (fa_X10_17 hW) c3 ?_
  refine X.iload (pc := 112) (i := 5) 4 dX10_layRepeat_112 rfl ?_
  refine X.aload_n (pc := 114) (i := 0) 0 dX10_layRepeat_114 rfl rfl ?_
  refine X.getR (pc := 115) (b := 279) dX10_layRepeat_115 fl_X10_50 rfl (fs_X10 hW) (fp_X10_16 hW) ?_
  refine X.iload (pc := 118) (i := 6) 5 dX10_layRepeat_118 rfl ?_
  obtain ⟨c4, h⟩ := h
  refine X.iaload (pc := 120) dX10_layRepeat_120 (fa_X10_16 hW) c4 ?_
  refine X.topI (y := ((up μ q0 (Int.toNat y1) (w32 (y2 + y3))) 279 (Int.toNat x6))) ((up_a (by decide) _)) ?_
  refine X.iadd (pc := 121) dX10_layRepeat_121 ?_
  refine X.istore (pc := 122) (i := 5) (ls' := [(5, vI (w32 (x5 + ((up μ q0 (Int.toNat y1) (w32 (y2 + y3))) 279 (Int.toNat x6))))), (0, vR 265), (1, vI x1), (3, vI x3), (4, vI x4), (6, vI x6)]) dX10_layRepeat_122 (by decide) rfl ?_
  refine X.iinc (pc := 124) (i := 6) (ls' := [(6, vI (w32 (x6 + 1))), (5, vI (w32 (x5 + ((up μ q0 (Int.toNat y1) (w32 (y2 + y3))) 279 (Int.toNat x6))))), (0, vR 265), (1, vI x1), (3, vI x3), (4, vI x4)]) 5 dX10_layRepeat_124 rfl (by decide) rfl ?_
  refine X.goto (pc := 127) (tgt := 44) dX10_layRepeat_127 (by decide) ?_
  exact X.pick [2, 3, 4, 5, 1, 0] rfl h

theorem g_X10_laySplit_0 {sh : List (Nat × Nat)} {ν : Nat → Nat → Option Nat} {μ : Nat → Nat → Int} {f s : Nat} {Q : xQ} (hW : WF sh ν f s) {x1 : Int} {x2 : Int}
    (h : X mX10_laySplit 8 [(0, vR 265), (1, vI x1), (3, vI x2), (4, vI 0), (5, vI 0)] [] sh (ν) (μ) 0 0 Q) :
    X mX10_laySplit 0 [(0, vR 265), (1, vI x1), (2, vI x2)] [] sh ν μ 0 0 Q := by
  refine X.iload_n (pc := 0) (i := 2) 2 dX10_laySplit_0 rfl rfl ?_
  refine X.istore_n (pc := 1) (i := 3) (ls' := [(3, vI x2), (0, vR 265), (1, vI x1), (2, vI x2)]) dX10_laySplit_1 rfl (by decide) rfl ?_
  refine X.iconst (pc := 2) dX10_laySplit_2 ⟨by decide, by decide⟩ ?_
  refine X.istore (pc := 3) (i := 4) (ls' := [(4, vI 0), (3, vI x2), (0, vR 265), (1, vI x1), (2, vI x2)]) dX10_laySplit_3 (by decide) rfl ?_
  refine X.iconst (pc := 5) dX10_laySplit_5 ⟨by decide, by decide⟩ ?_
  refine X.istore (pc := 6) (i := 5) (ls' := [(5, vI 0), (4, vI 0), (3, vI x2), (0, vR 265), (1, vI x1), (2, vI x2)]) dX10_laySplit_6 (by decide) rfl ?_
  exact X.pick [3, 4, 2, 1, 0] rfl h

theorem g_X10_laySplit_8 {sh : List (Nat × Nat)} {ν : Nat → Nat → Option Nat} {μ : Nat → Nat → Int} {f s : Nat} {Q : xQ} (hW : WF sh ν f s) {x1 : Int} {x3 : Int} {x4 : Int} {x5 : Int}
    (h : (0 ≤ x1 ∧ x1 < (40 : Nat)) ∧ ((((μ) 270 (Int.toNat x1)) ≤ x5 → ((x3 < 0 → Q (some (vI 0)) sh (ν) (μ)) ∧ (0 ≤ x3 → ((x4 ≠ 0 → X mX10_laySplit 110 [(0, vR 265), (1, vI x1), (3, vI x3), (4, vI x4)] [] sh (ν) (μ) 0 0 Q) ∧ (x4 = 0 → ((x3 ≤ 0 → X mX10_laySplit 110 [(0, vR 265), (1, vI x1), (3, vI x3), (4, vI x4)] [] sh (ν) (μ) 0 0 Q) ∧ (0 < x3 → Q (some (vI 0)) sh (ν) (μ)))))))) ∧ (x5 < ((μ) 270 (Int.toNat x1)) → (0 ≤ (w32 ((w32 (6 * x1)) + x5)) ∧ (w32 ((w32 (6 * x1)) + x5)) < (240 : Nat)) ∧ ((((μ) 273 (Int.toNat (w32 ((w32 (6 * x1)) + x5)))) = 0 → (0 ≤ (w32 ((w32 (6 * x1)) + x5)) ∧ (w32 ((w32 (6 * x1)) + x5)) < (240 : Nat)) ∧ X mX10_laySplit 51 [(0, vR 265), (1, vI x1), (4, vI x4), (5, vI x5)] [vI ((μ) 272 (Int.toNat (w32 ((w32 (6 * x1)) + x5)))), vI x3] sh (ν) (μ) 0 0 Q) ∧ (((μ) 273 (Int.toNat (w32 ((w32 (6 * x1)) + x5)))) ≠ 0 → X mX10_laySplit 51 [(0, vR 265), (1, vI x1), (4, vI x4), (5, vI x5)] [vI 0, vI x3] sh (ν) (μ) 0 0 Q))))) :
    X mX10_laySplit 8 [(0, vR 265), (1, vI x1), (3, vI x3), (4, vI x4), (5, vI x5)] [] sh ν μ 0 0 Q := by
  refine X.iload (pc := 8) (i := 5) 4 dX10_laySplit_8 rfl ?_
  refine X.aload_n (pc := 10) (i := 0) 0 dX10_laySplit_10 rfl rfl ?_
  refine X.getR (pc := 11) (b := 270) dX10_laySplit_11 fl_X10_22 rfl (fs_X10 hW) (fp_X10_5 hW) ?_
  refine X.iload_n (pc := 14) (i := 1) 1 dX10_laySplit_14 rfl rfl ?_
  obtain ⟨c1, h⟩ := h
  refine X.iaload (pc := 15) dX10_laySplit_15 (fa_X10_5 hW) c1 ?_
  refine X.icmp_ge (pc := 16) 95 dX10_laySplit_16 (by decide) ⟨fun q9 => ?_, fun q9 => ?_⟩
  · have h := h.1 q9
    refine X.iload_n (pc := 95) (i := 3) 2 dX10_laySplit_95 rfl rfl ?_
    refine X.if_lt (pc := 96) 108 dX10_laySplit_96 (by decide) ⟨fun q9 => ?_, fun q9 => ?_⟩
    · have h := h.1 q9
      refine X.iconst (pc := 108) dX10_laySplit_108 ⟨by decide, by decide⟩ ?_
      exact X.zret (pc := 109) dX10_laySplit_109 rfl (by decide) (Nat.le_of_ble_eq_true rfl) (Nat.le_of_ble_eq_true rfl) h
    · have h := h.2 q9
      refine X.iload (pc := 99) (i := 4) 3 dX10_laySplit_99 rfl ?_
      refine X.if_ne (pc := 101) 110 dX10_laySplit_101 (by decide) ⟨fun q9 => ?_, fun q9 => ?_⟩
      · have h := h.1 q9
        exact X.pick [0, 1, 2, 3] rfl h
      · have h := h.2 q9
        refine X.iload_n (pc := 104) (i := 3) 2 dX10_laySplit_104 rfl rfl ?_
        refine X.if_le (pc := 105) 110 dX10_laySplit_105 (by decide) ⟨fun q9 => ?_, fun q9 => ?_⟩
        · have h := h.1 q9
          exact X.pick [0, 1, 2, 3] rfl h
        · have h := h.2 q9
          refine X.iconst (pc := 108) dX10_laySplit_108 ⟨by decide, by decide⟩ ?_
          exact X.zret (pc := 109) dX10_laySplit_109 rfl (by decide) (Nat.le_of_ble_eq_true rfl) (Nat.le_of_ble_eq_true rfl) h
  · have h := h.2 q9
    refine X.iload_n (pc := 19) (i := 3) 2 dX10_laySplit_19 rfl rfl ?_
    refine X.aload_n (pc := 20) (i := 0) 0 dX10_laySplit_20 rfl rfl ?_
    refine X.getR (pc := 21) (b := 273) dX10_laySplit_21 fl_X10_31 rfl (fs_X10 hW) (fp_X10_8 hW) ?_
    refine X.bipush (pc := 24) (y := 6) dX10_laySplit_24 rfl ⟨by decide, by decide⟩ ?_
    refine X.iload_n (pc := 26) (i := 1) 1 dX10_laySplit_26 rfl rfl ?_
    refine X.imul (pc := 27) dX10_laySplit_27 ?_
    refine X.iload (pc := 28) (i := 5) 4 dX10_laySplit_28 rfl ?_
    refine X.iadd (pc := 30) dX10_laySplit_30 ?_
    obtain ⟨c2, h⟩ := h
    refine X.zaload (pc := 31) dX10_laySplit_31 (fa_X10_8 hW) c2 ?_
    refine X.if_eq (pc := 32) 39 dX10_laySplit_32 (by decide) ⟨fun q9 => ?_, fun q9 => ?_⟩
    · have h := h.1 q9
      refine X.aload_n (pc := 39) (i := 0) 0 dX10_laySplit_39 rfl rfl ?_
      refine X.getR (pc := 40) (b := 272) dX10_laySplit_40 fl_X10_28 rfl (fs_X10 hW) (fp_X10_7 hW) ?_
      refine X.bipush (pc := 43) (y := 6) dX10_laySplit_43 rfl ⟨by decide, by decide⟩ ?_
      refine X.iload_n (pc := 45) (i := 1) 1 dX10_laySplit_45 rfl rfl ?_
      refine X.imul (pc := 46) dX10_laySplit_46 ?_
      refine X.iload (pc := 47) (i := 5) 4 dX10_laySplit_47 rfl ?_
      refine X.iadd (pc := 49) dX10_laySplit_49 ?_
      obtain ⟨c3, h⟩ := h
      refine X.iaload (pc := 50) dX10_laySplit_50 (fa_X10_7 hW) c3 ?_
      exact X.pick [0, 1, 3, 4] rfl h
    · have h := h.2 q9
      refine X.iconst (pc := 35) dX10_laySplit_35 ⟨by decide, by decide⟩ ?_
      refine X.goto (pc := 36) (tgt := 51) dX10_laySplit_36 (by decide) ?_
      exact X.pick [0, 1, 3, 4] rfl h

theorem g_X10_laySplit_51 {sh : List (Nat × Nat)} {ν : Nat → Nat → Option Nat} {μ : Nat → Nat → Int} {f s : Nat} {Q : xQ} (hW : WF sh ν f s) {x1 : Int} {x4 : Int} {x5 : Int} {y0 : Int} {y1 : Int}
    (h : (0 ≤ (w32 ((w32 (6 * x1)) + x5)) ∧ (w32 ((w32 (6 * x1)) + x5)) < (240 : Nat)) ∧ ((((μ) 273 (Int.toNat (w32 ((w32 (6 * x1)) + x5)))) = 0 → X mX10_laySplit 86 [(0, vR 265), (1, vI x1), (3, vI (w32 (y0 - y1))), (5, vI x5)] [vI 0, vI x4] sh (ν) (μ) 0 0 Q) ∧ (((μ) 273 (Int.toNat (w32 ((w32 (6 * x1)) + x5)))) ≠ 0 → (0 ≤ (w32 ((w32 (6 * x1)) + x5)) ∧ (w32 ((w32 (6 * x1)) + x5)) < (240 : Nat)) ∧ X mX10_laySplit 86 [(0, vR 265), (1, vI x1), (3, vI (w32 (y0 - y1))), (5, vI x5)] [vI ((μ) 272 (Int.toNat (w32 ((w32 (6 * x1)) + x5)))), vI x4] sh (ν) (μ) 0 0 Q))) :
    X mX10_laySplit 51 [(0, vR 265), (1, vI x1), (4, vI x4), (5, vI x5)] [vI y1, vI y0] sh ν μ 0 0 Q := by
  refine X.isub (pc := 51) dX10_laySplit_51 ?_
  refine X.istore_n (pc := 52) (i := 3) (ls' := [(3, vI (w32 (y0 - y1))), (0, vR 265), (1, vI x1), (4, vI x4), (5, vI x5)]) dX10_laySplit_52 rfl (by decide) rfl ?_
  refine X.iload (pc := 53) (i := 4) 3 dX10_laySplit_53 rfl ?_
  refine X.aload_n (pc := 55) (i := 0) 1 dX10_laySplit_55 rfl rfl ?_
  refine X.getR (pc := 56) (b := 273) dX10_laySplit_56 fl_X10_31 rfl (fs_X10 hW) (fp_X10_8 hW) ?_
  refine X.bipush (pc := 59) (y := 6) dX10_laySplit_59 rfl ⟨by decide, by decide⟩ ?_
  refine X.iload_n (pc := 61) (i := 1) 2 dX10_laySplit_61 rfl rfl ?_
  refine X.imul (pc := 62) dX10_laySplit_62 ?_
  refine X.iload (pc := 63) (i := 5) 4 dX10_laySplit_63 rfl ?_
  refine X.iadd (pc := 65) dX10_laySplit_65 ?_
  obtain ⟨c1, h⟩ := h
  refine X.zaload (pc := 66) dX10_laySplit_66 (fa_X10_8 hW) c1 ?_
  refine X.if_eq (pc := 67) 85 dX10_laySplit_67 (by decide) ⟨fun q9 => ?_, fun q9 => ?_⟩
  · have h := h.1 q9
    refine X.iconst (pc := 85) dX10_laySplit_85 ⟨by decide, by decide⟩ ?_
    exact X.pick [1, 2, 0, 4] rfl h
  · have h := h.2 q9
    refine X.aload_n (pc := 70) (i := 0) 1 dX10_laySplit_70 rfl rfl ?_
    refine X.getR (pc := 71) (b := 272) dX10_laySplit_71 fl_X10_28 rfl (fs_X10 hW) (fp_X10_7 hW) ?_
    refine X.bipush (pc := 74) (y := 6) dX10_laySplit_74 rfl ⟨by decide, by decide⟩ ?_
    refine X.iload_n (pc := 76) (i := 1) 2 dX10_laySplit_76 rfl rfl ?_
    refine X.imul (pc := 77) dX10_laySplit_77 ?_
    refine X.iload (pc := 78) (i := 5) 4 dX10_laySplit_78 rfl ?_
    refine X.iadd (pc := 80) dX10_laySplit_80 ?_
    obtain ⟨c2, h⟩ := h
    refine X.iaload (pc := 81) dX10_laySplit_81 (fa_X10_7 hW) c2 ?_
    refine X.goto (pc := 82) (tgt := 86) dX10_laySplit_82 (by decide) ?_
    exact X.pick [1, 2, 0, 4] rfl h

theorem g_X10_laySplit_86 {sh : List (Nat × Nat)} {ν : Nat → Nat → Option Nat} {μ : Nat → Nat → Int} {f s : Nat} {Q : xQ} (hW : WF sh ν f s) {x1 : Int} {x3 : Int} {x5 : Int} {y0 : Int} {y1 : Int}
    (h : X mX10_laySplit 8 [(0, vR 265), (1, vI x1), (3, vI x3), (4, vI (w32 (y0 + y1))), (5, vI (w32 (x5 + 1)))] [] sh (ν) (μ) 0 0 Q) :
    X mX10_laySplit 86 [(0, vR 265), (1, vI x1), (3, vI x3), (5, vI x5)] [vI y1, vI y0] sh ν μ 0 0 Q := by
  refine X.iadd (pc := 86) dX10_laySplit_86 ?_
  refine X.istore (pc := 87) (i := 4) (ls' := [(4, vI (w32 (y0 + y1))), (0, vR 265), (1, vI x1), (3, vI x3), (5, vI x5)]) dX10_laySplit_87 (by decide) rfl ?_
  refine X.iinc (pc := 89) (i := 5) (ls' := [(5, vI (w32 (x5 + 1))), (4, vI (w32 (y0 + y1))), (0, vR 265), (1, vI x1), (3, vI x3)]) 4 dX10_laySplit_89 rfl (by decide) rfl ?_
  refine X.goto (pc := 92) (tgt := 8) dX10_laySplit_92 (by decide) ?_
  exact X.pick [2, 3, 4, 1, 0] rfl h

theorem g_X10_laySplit_110 {sh : List (Nat × Nat)} {ν : Nat → Nat → Option Nat} {μ : Nat → Nat → Int} {f s : Nat} {Q : xQ} (hW : WF sh ν f s) {x1 : Int} {x3 : Int} {x4 : Int}
    (h : X mX10_laySplit 116 [(0, vR 265), (1, vI x1), (3, vI x3), (4, vI x4), (5, vI x3), (6, vI 0)] [] sh (ν) (μ) 0 0 Q) :
    X mX10_laySplit 110 [(0, vR 265), (1, vI x1), (3, vI x3), (4, vI x4)] [] sh ν μ 0 0 Q := by
  refine X.iload_n (pc := 110) (i := 3) 2 dX10_laySplit_110 rfl rfl ?_
  refine X.istore (pc := 111) (i := 5) (ls' := [(5, vI x3), (0, vR 265), (1, vI x1), (3, vI x3), (4, vI x4)]) dX10_laySplit_111 (by decide) rfl ?_
  refine X.iconst (pc := 113) dX10_laySplit_113 ⟨by decide, by decide⟩ ?_
  refine X.istore (pc := 114) (i := 6) (ls' := [(6, vI 0), (5, vI x3), (0, vR 265), (1, vI x1), (3, vI x3), (4, vI x4)]) dX10_laySplit_114 (by decide) rfl ?_
  exact X.pick [2, 3, 4, 5, 1, 0] rfl h

theorem g_X10_laySplit_116 {sh : List (Nat × Nat)} {ν : Nat → Nat → Option Nat} {μ : Nat → Nat → Int} {f s : Nat} {Q : xQ} (hW : WF sh ν f s) {x1 : Int} {x3 : Int} {x4 : Int} {x5 : Int} {x6 : Int}
    (h : (0 ≤ x1 ∧ x1 < (40 : Nat)) ∧ ((((μ) 270 (Int.toNat x1)) ≤ x6 → (0 ≤ x1 ∧ x1 < (40 : Nat)) ∧ X mX10_laySplit 231 [(0, vR 265), (1, vI x1), (5, vI x5), (6, vI 0), (7, vI 1), (8, vI 0)] [] sh (ν) (up μ 265 14 ((μ) 270 (Int.toNat x1))) 0 0 Q) ∧ (x6 < ((μ) 270 (Int.toNat x1)) → (0 ≤ (w32 ((w32 (6 * x1)) + x6)) ∧ (w32 ((w32 (6 * x1)) + x6)) < (240 : Nat)) ∧ (0 ≤ (w32 ((w32 (6 * x1)) + x6)) ∧ (w32 ((w32 (6 * x1)) + x6)) < (240 : Nat)) ∧ ((((μ) 273 (Int.toNat (w32 ((w32 (6 * x1)) + x6)))) = 0 → X mX10_laySplit 174 [(0, vR 265), (1, vI x1), (3, vI x3), (4, vI x4), (5, vI x5), (6, vI x6)] [vI ((μ) 272 (Int.toNat (w32 ((w32 (6 * x1)) + x6)))), vI x6, vR 279] sh (ν) (μ) 0 0 Q) ∧ (((μ) 273 (Int.toNat (w32 ((w32 (6 * x1)) + x6)))) ≠ 0 → (x4 ≠ 0) ∧ X mX10_laySplit 174 [(0, vR 265), (1, vI x1), (3, vI x3), (4, vI x4), (5, vI x5), (6, vI x6)] [vI (w32 (Int.tdiv (w32 (x3 * ((μ) 272 (Int.toNat (w32 ((w32 (6 * x1)) + x6)))))) x4)), vI x6, vR 279] sh (ν) (μ) 0 0 Q))))) :
    X mX10_laySplit 116 [(0, vR 265), (1, vI x1), (3, vI x3), (4, vI x4), (5, vI x5), (6, vI x6)] [] sh ν μ 0 0 Q := by
  refine X.iload (pc := 116) (i := 6) 5 dX10_laySplit_116 rfl ?_
  refine X.aload_n (pc := 118) (i := 0) 0 dX10_laySplit_118 rfl rfl ?_
  refine X.getR (pc := 119) (b := 270) dX10_laySplit_119 fl_X10_22 rfl (fs_X10 hW) (fp_X10_5 hW) ?_
  refine X.iload_n (pc := 122) (i := 1) 1 dX10_laySplit_122 rfl rfl ?_
  obtain ⟨c1, h⟩ := h
  refine X.iaload (pc := 123) dX10_laySplit_123 (fa_X10_5 hW) c1 ?_
  refine X.icmp_ge (pc := 124) 212 dX10_laySplit_124 (by decide) ⟨fun q9 => ?_, fun q9 => ?_⟩
  · have h := h.1 q9
    refine X.aload_n (pc := 212) (i := 0) 0 dX10_laySplit_212 rfl rfl ?_
    refine X.aload_n (pc := 213) (i := 0) 0 dX10_laySplit_213 rfl rfl ?_
    refine X.getR (pc := 214) (b := 270) dX10_laySplit_214 fl_X10_22 rfl (fs_X10 hW) (fp_X10_5 hW) ?_
    refine X.iload_n (pc := 217) (i := 1) 1 dX10_laySplit_217 rfl rfl ?_
    obtain ⟨c2, h⟩ := h
    refine X.iaload (pc := 218) dX10_laySplit_218 (fa_X10_5 hW) c2 ?_
    refine X.putI (pc := 219) dX10_laySplit_219 fl_X10_173 rfl (fun h9 => by cases h9) (fs_X10 hW) (Or.inl rfl) ?_
    refine X.iconst (pc := 222) dX10_laySplit_222 ⟨by decide, by decide⟩ ?_
    refine X.istore (pc := 223) (i := 6) (ls' := [(6, vI 0), (0, vR 265), (1, vI x1), (3, vI x3), (4, vI x4), (5, vI x5)]) dX10_laySplit_223 (by decide) rfl ?_
    refine X.iconst (pc := 225) dX10_laySplit_225 ⟨by decide, by decide⟩ ?_
    refine X.istore (pc := 226) (i := 7) (ls' := [(7, vI 1), (6, vI 0), (0, vR 265), (1, vI x1), (3, vI x3), (4, vI x4), (5, vI x5)]) dX10_laySplit_226 (by decide) rfl ?_
    refine X.iconst (pc := 228) dX10_laySplit_228 ⟨by decide, by decide⟩ ?_
    refine X.istore (pc := 229) (i := 8) (ls' := [(8, vI 0), (7, vI 1), (6, vI 0), (0, vR 265), (1, vI x1), (3, vI x3), (4, vI x4), (5, vI x5)]) dX10_laySplit_229 (by decide) rfl ?_
    exact X.pick [3, 4, 7, 2, 1, 0] rfl h
  · have h := h.2 q9
    refine X.aload_n (pc := 127) (i := 0) 0 dX10_laySplit_127 rfl rfl ?_
    refine X.getR (pc := 128) (b := 272) dX10_laySplit_128 fl_X10_28 rfl (fs_X10 hW) (fp_X10_7 hW) ?_
    refine X.bipush (pc := 131) (y := 6) dX10_laySplit_131 rfl ⟨by decide, by decide⟩ ?_
    refine X.iload_n (pc := 133) (i := 1) 1 dX10_laySplit_133 rfl rfl ?_
    refine X.imul (pc := 134) dX10_laySplit_134 ?_
    refine X.iload (pc := 135) (i := 6) 5 dX10_laySplit_135 rfl ?_
    refine X.iadd (pc := 137) dX10_laySplit_137 ?_
    obtain ⟨c3, h⟩ := h
    refine X.iaload (pc := 138) dX10_laySplit_138 (fa_X10_7 hW) c3 ?_
    refine X.istore (pc := 139) (i := 7) (ls' := [(7, vI ((μ) 272 (Int.toNat (w32 ((w32 (6 * x1)) + x6))))), (0, vR 265), (1, vI x1), (3, vI x3), (4, vI x4), (5, vI x5), (6, vI x6)]) dX10_laySplit_139 (by decide) rfl ?_
    refine X.aload_n (pc := 141) (i := 0) 1 dX10_laySplit_141 rfl rfl ?_
    refine X.getR (pc := 142) (b := 279) dX10_laySplit_142 fl_X10_50 rfl (fs_X10 hW) (fp_X10_16 hW) ?_
    refine X.iload (pc := 145) (i := 6) 6 dX10_laySplit_145 rfl ?_
    refine X.aload_n (pc := 147) (i := 0) 1 dX10_laySplit_147 rfl rfl ?_
    refine X.getR (pc := 148) (b := 273) dX10_laySplit_148 fl_X10_31 rfl (fs_X10 hW) (fp_X10_8 hW) ?_
    refine X.bipush (pc := 151) (y := 6) dX10_laySplit_151 rfl ⟨by decide, by decide⟩ ?_
    refine X.iload_n (pc := 153) (i := 1) 2 dX10_laySplit_153 rfl rfl ?_
    refine X.imul (pc := 154) dX10_laySplit_154 ?_
    refine X.iload (pc := 155) (i := 6) 6 dX10_laySplit_155 rfl ?_
    refine X.iadd (pc := 157) dX10_laySplit_157 ?_
    obtain ⟨c4, h⟩ := h
    refine X.zaload (pc := 158) dX10_laySplit_158 (fa_X10_8 hW) c4 ?_
    refine X.if_eq (pc := 159) 172 dX10_laySplit_159 (by decide) ⟨fun q9 => ?_, fun q9 => ?_⟩
    · have h := h.1 q9
      refine X.iload (pc := 172) (i := 7) 0 dX10_laySplit_172 rfl ?_
      exact X.pick [1, 2, 3, 4, 5, 6] rfl h
    · have h := h.2 q9
      refine X.iload_n (pc := 162) (i := 3) 3 dX10_laySplit_162 rfl rfl ?_
      refine X.iload (pc := 163) (i := 7) 0 dX10_laySplit_163 rfl ?_
      refine X.imul (pc := 165) dX10_laySplit_165 ?_
      refine X.iload (pc := 166) (i := 4) 4 dX10_laySplit_166 rfl ?_
      obtain ⟨c5, h⟩ := h
      refine X.idiv (pc := 168) dX10_laySplit_168 c5 ?_
      refine X.goto (pc := 169) (tgt := 174) dX10_laySplit_169 (by decide) ?_
      exact X.pick [1, 2, 3, 4, 5, 6] rfl h

theorem g_X10_laySplit_174 {sh : List (Nat × Nat)} {ν : Nat → Nat → Option Nat} {μ : Nat → Nat → Int} {f s : Nat} {Q : xQ} (hW : WF sh ν f s) {x1 : Int} {x3 : Int} {x4 : Int} {x5 : Int} {x6 : Int} {q0 nq0 : Nat} (hq0 : sh[q0]? = some (0, nq0)) {y1 : Int} {y2 : Int}
    (h : (0 ≤ y1 ∧ y1 < (nq0 : Nat)) ∧ (0 ≤ (w32 ((w32 (6 * x1)) + x6)) ∧ (w32 ((w32 (6 * x1)) + x6)) < (240 : Nat)) ∧ ((((up μ q0 (Int.toNat y1) y2) 273 (Int.toNat (w32 ((w32 (6 * x1)) + x6)))) = 0 → X mX10_laySplit 203 [(0, vR 265), (1, vI x1), (3, vI x3), (4, vI x4), (6, vI x6)] [vI 0, vI x5] sh (ν) (up μ q0 (Int.toNat y1) y2) 0 0 Q) ∧ (((up μ q0 (Int.toNat y1) y2) 273 (Int.toNat (w32 ((w32 (6 * x1)) + x6)))) ≠ 0 → (0 ≤ x6 ∧ x6 < (20 : Nat)) ∧ X mX10_laySplit 203 [(0, vR 265), (1, vI x1), (3, vI x3), (4, vI x4), (6, vI x6)] [vI ((up μ q0 (Int.toNat y1) y2) 279 (Int.toNat x6)), vI x5] sh (ν) (up μ q0 (Int.toNat y1) y2) 0 0 Q))) :
    X mX10_laySplit 174 [(0, vR 265), (1, vI x1), (3, vI x3), (4, vI x4), (5, vI x5), (6, vI x6)] [vI y2, vI y1, vR q0] sh ν μ 0 0 Q := by
  obtain ⟨c1, h⟩ := h
  refine X.iastore (pc := 174) dX10_laySplit_174 hq0 c1 ?_
  refine X.iload (pc := 175) (i := 5) 4 dX10_laySplit_175 rfl ?_
  refine X.aload_n (pc := 177) (i := 0) 0 dX10_laySplit_177 rfl rfl ?_
  refine X.getR (pc := 178) (b := 273) dX10_laySplit_178 fl_X10_31 rfl (fs_X10 hW) (fp_X10_8 hW) ?_
  refine X.bipush (pc := 181) (y := 6) dX10_laySplit_181 rfl ⟨by decide, by decide⟩ ?_
  refine X.iload_n (pc := 183) (i := 1) 1 dX10_laySplit_183 rfl rfl ?_
  refine X.imul (pc := 184) dX10_laySplit_184 ?_
  refine X.iload (pc := 185) (i := 6) 5 dX10_laySplit_185 rfl ?_
  refine X.iadd (pc := 187) dX10_laySplit_187 ?_
  obtain ⟨c2, h⟩ := h
  refine X.zaload (pc := 188) dX10_laySplit_188 (fa_X10_8 hW) c2 ?_
  refine X.if_eq (pc := 189) 202 dX10_laySplit_189 (by decide) ⟨fun q9 => ?_, fun q9 => ?_⟩
  · have h := h.1 q9
    refine X.iconst (pc := 202) dX10_laySplit_202 ⟨by decide, by decide⟩ ?_
    exact X.pick [0, 1, 2, 3, 5] rfl h
  · have h := h.2 q9
    refine X.aload_n (pc := 192) (i := 0) 0 dX10_laySplit_192 rfl rfl ?_
    refine X.getR (pc := 193) (b := 279) dX10_laySplit_193 fl_X10_50 rfl (fs_X10 hW) (fp_X10_16 hW) ?_
    refine X.iload (pc := 196) (i := 6) 5 dX10_laySplit_196 rfl ?_
    obtain ⟨c3, h⟩ := h
    refine X.iaload (pc := 198) dX10_laySplit_198 (fa_X10_16 hW) c3 ?_
    refine X.goto (pc := 199) (tgt := 203) dX10_laySplit_199 (by decide) ?_
    exact X.pick [0, 1, 2, 3, 5] rfl h

theorem g_X10_laySplit_203 {sh : List (Nat × Nat)} {ν : Nat → Nat → Option Nat} {μ : Nat → Nat → Int} {f s : Nat} {Q : xQ} (hW : WF sh ν f s) {x1 : Int} {x3 : Int} {x4 : Int} {x6 : Int} {y0 : Int} {y1 : Int}
    (h : X mX10_laySplit 116 [(0, vR 265), (1, vI x1), (3, vI x3), (4, vI x4), (5, vI (w32 (y0 - y1))), (6, vI (w32 (x6 + 1)))] [] sh (ν) (μ) 0 0 Q) :
    X mX10_laySplit 203 [(0, vR 265), (1, vI x1), (3, vI x3), (4, vI x4), (6, vI x6)] [vI y1, vI y0] sh ν μ 0 0 Q := by
  refine X.isub (pc := 203) dX10_laySplit_203 ?_
  refine X.istore (pc := 204) (i := 5) (ls' := [(5, vI (w32 (y0 - y1))), (0, vR 265), (1, vI x1), (3, vI x3), (4, vI x4), (6, vI x6)]) dX10_laySplit_204 (by decide) rfl ?_
  refine X.iinc (pc := 206) (i := 6) (ls' := [(6, vI (w32 (x6 + 1))), (5, vI (w32 (y0 - y1))), (0, vR 265), (1, vI x1), (3, vI x3), (4, vI x4)]) 5 dX10_laySplit_206 rfl (by decide) rfl ?_
  refine X.goto (pc := 209) (tgt := 116) dX10_laySplit_209 (by decide) ?_
  exact X.pick [2, 3, 4, 5, 1, 0] rfl h

theorem g_X10_laySplit_231 {sh : List (Nat × Nat)} {ν : Nat → Nat → Option Nat} {μ : Nat → Nat → Int} {f s : Nat} {Q : xQ} (hW : WF sh ν f s) {x1 : Int} {x5 : Int} {x6 : Int} {x7 : Int} {x8 : Int}
    (h : ((((μ) 265 14) ≤ x8 → (x7 = 0 ∨ x7 = 1) ∧ Q (some (vI x7)) sh (ν) (μ)) ∧ (x8 < ((μ) 265 14) → (0 ≤ (w32 ((w32 (6 * x1)) + x8)) ∧ (w32 ((w32 (6 * x1)) + x8)) < (240 : Nat)) ∧ ((((μ) 273 (Int.toNat (w32 ((w32 (6 * x1)) + x8)))) = 0 → X mX10_laySplit 274 [(0, vR 265), (1, vI x1), (5, vI x5), (6, vI x6), (7, vI x7), (8, vI x8)] [] sh (ν) (μ) 0 0 Q) ∧ (((μ) 273 (Int.toNat (w32 ((w32 (6 * x1)) + x8)))) ≠ 0 → ((x5 ≤ 0 → X mX10_laySplit 274 [(0, vR 265), (1, vI x1), (5, vI x5), (6, vI x6), (7, vI x7), (8, vI x8)] [] sh (ν) (μ) 0 0 Q) ∧ (0 < x5 → (0 ≤ x8 ∧ x8 < (20 : Nat)) ∧ (0 ≤ x8 ∧ x8 < (20 : Nat)) ∧ X mX10_laySplit 274 [(0, vR 265), (1, vI x1), (5, vI (w32 (x5 + (-1)))), (6, vI x6), (7, vI x7), (8, vI x8)] [] sh (ν) (up μ 279 (Int.toNat x8) (w32 (((μ) 279 (Int.toNat x8)) + 1))) 0 0 Q))))))) :
    X mX10_laySplit 231 [(0, vR 265), (1, vI x1), (5, vI x5), (6, vI x6), (7, vI x7), (8, vI x8)] [] sh ν μ 0 0 Q := by
  refine X.iload (pc := 231) (i := 8) 5 dX10_laySplit_231 rfl ?_
  refine X.aload_n (pc := 233) (i := 0) 0 dX10_laySplit_233 rfl rfl ?_
  refine X.getI (pc := 234) dX10_laySplit_234 fl_X10_173 rfl (fs_X10 hW) ?_
  refine X.icmp_ge (pc := 237) 342 dX10_laySplit_237 (by decide) ⟨fun q9 => ?_, fun q9 => ?_⟩
  · have h := h.1 q9
    refine X.iload (pc := 342) (i := 7) 4 dX10_laySplit_342 rfl ?_
    obtain ⟨c1, h⟩ := h
    exact X.zret (pc := 344) dX10_laySplit_344 rfl c1 (Nat.le_of_ble_eq_true rfl) (Nat.le_of_ble_eq_true rfl) h
  · have h := h.2 q9
    refine X.aload_n (pc := 240) (i := 0) 0 dX10_laySplit_240 rfl rfl ?_
    refine X.getR (pc := 241) (b := 273) dX10_laySplit_241 fl_X10_31 rfl (fs_X10 hW) (fp_X10_8 hW) ?_
    refine X.bipush (pc := 244) (y := 6) dX10_laySplit_244 rfl ⟨by decide, by decide⟩ ?_
    refine X.iload_n (pc := 246) (i := 1) 1 dX10_laySplit_246 rfl rfl ?_
    refine X.imul (pc := 247) dX10_laySplit_247 ?_
    refine X.iload (pc := 248) (i := 8) 5 dX10_laySplit_248 rfl ?_
    refine X.iadd (pc := 250) dX10_laySplit_250 ?_
    obtain ⟨c2, h⟩ := h
    refine X.zaload (pc := 251) dX10_laySplit_251 (fa_X10_8 hW) c2 ?_
    refine X.if_eq (pc := 252) 274 dX10_laySplit_252 (by decide) ⟨fun q9 => ?_, fun q9 => ?_⟩
    · have h := h.1 q9
      exact h
    · have h := h.2 q9
      refine X.iload (pc := 255) (i := 5) 2 dX10_laySplit_255 rfl ?_
      refine X.if_le (pc := 257) 274 dX10_laySplit_257 (by decide) ⟨fun q9 => ?_, fun q9 => ?_⟩
      · have h := h.1 q9
        exact h
      · have h := h.2 q9
        refine X.aload_n (pc := 260) (i := 0) 0 dX10_laySplit_260 rfl rfl ?_
        refine X.getR (pc := 261) (b := 279) dX10_laySplit_261 fl_X10_50 rfl (fs_X10 hW) (fp_X10_16 hW) ?_
        refine X.iload (pc := 264) (i := 8) 5 dX10_laySplit_264 rfl ?_
        refine X.dup2 (pc := 266) dX10_laySplit_266 rfl rfl ?_
        obtain ⟨c3, h⟩ := h
        refine X.iaload (pc := 267) dX10_laySplit_267 (fa_X10_16 hW) c3 ?_
        refine X.iconst (pc := 268) dX10_laySplit_268 ⟨by decide, by decide⟩ ?_
        refine X.iadd (pc := 269) dX10_laySplit_269 ?_
        obtain ⟨c4, h⟩ := h
        refine X.iastore (pc := 270) dX10_laySplit_270 (fa_X10_16 hW) c4 ?_
        refine X.iinc (pc := 271) (i := 5) (ls' := [(5, vI (w32 (x5 + (-1)))), (0, vR 265), (1, vI x1), (6, vI x6), (7, vI x7), (8, vI x8)]) 2 dX10_laySplit_271 rfl (by decide) rfl ?_
        exact X.pick [1, 2, 0, 3, 4, 5] rfl h

theorem g_X10_laySplit_274 {sh : List (Nat × Nat)} {ν : Nat → Nat → Option Nat} {μ : Nat → Nat → Int} {f s : Nat} {Q : xQ} (hW : WF sh ν f s) {x1 : Int} {x5 : Int} {x6 : Int} {x7 : Int} {x8 : Int}
    (h : (0 ≤ x8 ∧ x8 < (20 : Nat)) ∧ (0 ≤ (w32 ((w32 (6 * x1)) + x8)) ∧ (w32 ((w32 (6 * x1)) + x8)) < (240 : Nat)) ∧ (0 ≤ x8 ∧ x8 < (20 : Nat)) ∧ (0 ≤ x8 ∧ x8 < (20 : Nat)) ∧ ((x7 = 0 → X mX10_laySplit 333 [(0, vR 265), (1, vI x1), (5, vI x5), (6, vI (w32 (x6 + ((μ) 279 (Int.toNat x8))))), (8, vI x8)] [] sh (ν) (up (up μ 278 (Int.toNat x8) x6) 280 (Int.toNat x8) ((μ) 271 (Int.toNat (w32 ((w32 (6 * x1)) + x8))))) 0 0 Q) ∧ (x7 ≠ 0 → (0 ≤ x8 ∧ x8 < (20 : Nat)) ∧ ((((μ) 279 (Int.toNat x8)) ≤ 0 → X mX10_laySplit 333 [(0, vR 265), (1, vI x1), (5, vI x5), (6, vI (w32 (x6 + ((μ) 279 (Int.toNat x8))))), (8, vI x8)] [] sh (ν) (up (up μ 278 (Int.toNat x8) x6) 280 (Int.toNat x8) ((μ) 271 (Int.toNat (w32 ((w32 (6 * x1)) + x8))))) 0 0 Q) ∧ (0 < ((μ) 279 (Int.toNat x8)) → X mX10_laySplit 334 [(0, vR 265), (1, vI x1), (5, vI x5), (6, vI (w32 (x6 + ((μ) 279 (Int.toNat x8))))), (8, vI x8)] [vI 1] sh (ν) (up (up μ 278 (Int.toNat x8) x6) 280 (Int.toNat x8) ((μ) 271 (Int.toNat (w32 ((w32 (6 * x1)) + x8))))) 0 0 Q))))) :
    X mX10_laySplit 274 [(0, vR 265), (1, vI x1), (5, vI x5), (6, vI x6), (7, vI x7), (8, vI x8)] [] sh ν μ 0 0 Q := by
  refine X.aload_n (pc := 274) (i := 0) 0 dX10_laySplit_274 rfl rfl ?_
  refine X.getR (pc := 275) (b := 278) dX10_laySplit_275 fl_X10_47 rfl (fs_X10 hW) (fp_X10_15 hW) ?_
  refine X.iload (pc := 278) (i := 8) 5 dX10_laySplit_278 rfl ?_
  refine X.iload (pc := 280) (i := 6) 3 dX10_laySplit_280 rfl ?_
  obtain ⟨c1, h⟩ := h
  refine X.iastore (pc := 282) dX10_laySplit_282 (fa_X10_15 hW) c1 ?_
  refine X.aload_n (pc := 283) (i := 0) 0 dX10_laySplit_283 rfl rfl ?_
  refine X.getR (pc := 284) (b := 280) dX10_laySplit_284 fl_X10_53 rfl (fs_X10 hW) (fp_X10_17 hW) ?_
  refine X.iload (pc := 287) (i := 8) 5 dX10_laySplit_287 rfl ?_
  refine X.aload_n (pc := 289) (i := 0) 0 dX10_laySplit_289 rfl rfl ?_
  refine X.getR (pc := 290) (b := 271) dX10_laySplit_290 fl_X10_25 rfl (fs_X10 hW) (fp_X10_6 hW) ?_
  refine X.bipush (pc := 293) (y := 6) dX10_laySplit_293 rfl ⟨by decide, by decide⟩ ?_
  refine X.iload_n (pc := 295) (i := 1) 1 dX10_laySplit_295 rfl rfl ?_
  refine X.imul (pc := 296) dX10_laySplit_296 ?_
  refine X.iload (pc := 297) (i := 8) 5 dX10_laySplit_297 rfl ?_
  refine X.iadd (pc := 299) dX10_laySplit_299 ?_
  obtain ⟨c2, h⟩ := h
  refine X.iaload (pc := 300) dX10_laySplit_300 (fa_X10_6 hW) c2 ?_
  refine X.topI (y := ((μ) 271 (Int.toNat (w32 ((w32 (6 * x1)) + x8))))) ((up_a (by decide) _)) ?_
  obtain ⟨c3, h⟩ := h
  refine X.iastore (pc := 301) dX10_laySplit_301 (fa_X10_17 hW) c3 ?_
  refine X.iload (pc := 302) (i := 6) 3 dX10_laySplit_302 rfl ?_
  refine X.aload_n (pc := 304) (i := 0) 0 dX10_laySplit_304 rfl rfl ?_
  refine X.getR (pc := 305) (b := 279) dX10_laySplit_305 fl_X10_50 rfl (fs_X10 hW) (fp_X10_16 hW) ?_
  refine X.iload (pc := 308) (i := 8) 5 dX10_laySplit_308 rfl ?_
  obtain ⟨c4, h⟩ := h
  refine X.iaload (pc := 310) dX10_laySplit_310 (fa_X10_16 hW) c4 ?_
  refine X.topI (y := ((μ) 279 (Int.toNat x8))) (Eq.trans (up_a (by decide) _) ((up_a (by decide) _))) ?_
  refine X.iadd (pc := 311) dX10_laySplit_311 ?_
  refine X.istore (pc := 312) (i := 6) (ls' := [(6, vI (w32 (x6 + ((μ) 279 (Int.toNat x8))))), (0, vR 265), (1, vI x1), (5, vI x5), (7, vI x7), (8, vI x8)]) dX10_laySplit_312 (by decide) rfl ?_
  refine X.iload (pc := 314) (i := 7) 4 dX10_laySplit_314 rfl ?_
  refine X.if_eq (pc := 316) 333 dX10_laySplit_316 (by decide) ⟨fun q9 => ?_, fun q9 => ?_⟩
  · have h := h.1 q9
    exact X.pick [1, 2, 3, 0, 5] rfl h
  · have h := h.2 q9
    refine X.aload_n (pc := 319) (i := 0) 1 dX10_laySplit_319 rfl rfl ?_
    refine X.getR (pc := 320) (b := 279) dX10_laySplit_320 fl_X10_50 rfl (fs_X10 hW) (fp_X10_16 hW) ?_
    refine X.iload (pc := 323) (i := 8) 5 dX10_laySplit_323 rfl ?_
    obtain ⟨c5, h⟩ := h
    refine X.iaload (pc := 325) dX10_laySplit_325 (fa_X10_16 hW) c5 ?_
    refine X.topI (y := ((μ) 279 (Int.toNat x8))) (Eq.trans (up_a (by decide) _) ((up_a (by decide) _))) ?_
    refine X.if_le (pc := 326) 333 dX10_laySplit_326 (by decide) ⟨fun q9 => ?_, fun q9 => ?_⟩
    · have h := h.1 q9
      exact X.pick [1, 2, 3, 0, 5] rfl h
    · have h := h.2 q9
      refine X.iconst (pc := 329) dX10_laySplit_329 ⟨by decide, by decide⟩ ?_
      refine X.goto (pc := 330) (tgt := 334) dX10_laySplit_330 (by decide) ?_
      exact X.pick [1, 2, 3, 0, 5] rfl h

theorem g_X10_laySplit_333 {sh : List (Nat × Nat)} {ν : Nat → Nat → Option Nat} {μ : Nat → Nat → Int} {f s : Nat} {Q : xQ} (hW : WF sh ν f s) {x1 : Int} {x5 : Int} {x6 : Int} {x8 : Int}
    (h : X mX10_laySplit 334 [(0, vR 265), (1, vI x1), (5, vI x5), (6, vI x6), (8, vI x8)] [vI 0] sh (ν) (μ) 0 0 Q) :
    X mX10_laySplit 333 [(0, vR 265), (1, vI x1), (5, vI x5), (6, vI x6), (8, vI x8)] [] sh ν μ 0 0 Q := by
  refine X.iconst (pc := 333) dX10_laySplit_333 ⟨by decide, by decide⟩ ?_
  exact h

theorem g_X10_laySplit_334 {sh : List (Nat × Nat)} {ν : Nat → Nat → Option Nat} {μ : Nat → Nat → Int} {f s : Nat} {Q : xQ} (hW : WF sh ν f s) {x1 : Int} {x5 : Int} {x6 : Int} {x8 : Int} {y0 : Int}
    (h : X mX10_laySplit 231 [(0, vR 265), (1, vI x1), (5, vI x5), (6, vI x6), (7, vI y0), (8, vI (w32 (x8 + 1)))] [] sh (ν) (μ) 0 0 Q) :
    X mX10_laySplit 334 [(0, vR 265), (1, vI x1), (5, vI x5), (6, vI x6), (8, vI x8)] [vI y0] sh ν μ 0 0 Q := by
  refine X.istore (pc := 334) (i := 7) (ls' := [(7, vI y0), (0, vR 265), (1, vI x1), (5, vI x5), (6, vI x6), (8, vI x8)]) dX10_laySplit_334 (by decide) rfl ?_
  refine X.iinc (pc := 336) (i := 8) (ls' := [(8, vI (w32 (x8 + 1))), (7, vI y0), (0, vR 265), (1, vI x1), (5, vI x5), (6, vI x6)]) 5 dX10_laySplit_336 rfl (by decide) rfl ?_
  refine X.goto (pc := 339) (tgt := 231) dX10_laySplit_339 (by decide) ?_
  exact X.pick [2, 3, 4, 5, 1, 0] rfl h

theorem g_X10_put_0 {sh : List (Nat × Nat)} {ν : Nat → Nat → Option Nat} {μ : Nat → Nat → Int} {f s : Nat} {Q : xQ} (hW : WF sh ν f s) {x1 : Int} {x2 : Int} {x3 : Int} {x4 : Int} {x5 : Int}
    (h : (0 ≤ ((μ) 265 27) ∧ ((μ) 265 27) < (600 : Nat)) ∧ (0 ≤ ((μ) 265 27) ∧ ((μ) 265 27) < (600 : Nat)) ∧ (0 ≤ ((μ) 265 27) ∧ ((μ) 265 27) < (600 : Nat)) ∧ (0 ≤ ((μ) 265 27) ∧ ((μ) 265 27) < (600 : Nat)) ∧ (0 ≤ ((μ) 265 27) ∧ ((μ) 265 27) < (600 : Nat)) ∧ Q none sh (ν) (up (up (up (up (up μ 285 (Int.toNat ((μ) 265 27)) x1) 286 (Int.toNat ((μ) 265 27)) x2) 287 (Int.toNat ((μ) 265 27)) x3) 288 (Int.toNat ((μ) 265 27)) x4) 289 (Int.toNat ((μ) 265 27)) x5)) :
    X mX10_put 0 [(0, vR 265), (1, vI x1), (2, vI x2), (3, vI x3), (4, vI x4), (5, vI x5)] [] sh ν μ 0 0 Q := by
  refine X.aload_n (pc := 0) (i := 0) 0 dX10_put_0 rfl rfl ?_
  refine X.getR (pc := 1) (b := 285) dX10_put_1 fl_X10_68 rfl (fs_X10 hW) (fp_X10_28 hW) ?_
  refine X.aload_n (pc := 4) (i := 0) 0 dX10_put_4 rfl rfl ?_
  refine X.getI (pc := 5) dX10_put_5 fl_X10_190 rfl (fs_X10 hW) ?_
  refine X.iload_n (pc := 8) (i := 1) 1 dX10_put_8 rfl rfl ?_
  obtain ⟨c1, h⟩ := h
  refine X.iastore (pc := 9) dX10_put_9 (fa_X10_28 hW) c1 ?_
  refine X.aload_n (pc := 10) (i := 0) 0 dX10_put_10 rfl rfl ?_
  refine X.getR (pc := 11) (b := 286) dX10_put_11 fl_X10_71 rfl (fs_X10 hW) (fp_X10_29 hW) ?_
  refine X.aload_n (pc := 14) (i := 0) 0 dX10_put_14 rfl rfl ?_
  refine X.getI (pc := 15) dX10_put_15 fl_X10_190 rfl (fs_X10 hW) ?_
  refine X.topI (y := ((μ) 265 27)) ((up_a (by decide) _)) ?_
  refine X.iload_n (pc := 18) (i := 2) 2 dX10_put_18 rfl rfl ?_
  obtain ⟨c2, h⟩ := h
  refine X.iastore (pc := 19) dX10_put_19 (fa_X10_29 hW) c2 ?_
  refine X.aload_n (pc := 20) (i := 0) 0 dX10_put_20 rfl rfl ?_
  refine X.getR (pc := 21) (b := 287) dX10_put_21 fl_X10_74 rfl (fs_X10 hW) (fp_X10_30 hW) ?_
  refine X.aload_n (pc := 24) (i := 0) 0 dX10_put_24 rfl rfl ?_
  refine X.getI (pc := 25) dX10_put_25 fl_X10_190 rfl (fs_X10 hW) ?_
  refine X.topI (y := ((μ) 265 27)) (Eq.trans (up_a (by decide) _) ((up_a (by decide) _))) ?_
  refine X.iload_n (pc := 28) (i := 3) 3 dX10_put_28 rfl rfl ?_
  obtain ⟨c3, h⟩ := h
  refine X.iastore (pc := 29) dX10_put_29 (fa_X10_30 hW) c3 ?_
  refine X.aload_n (pc := 30) (i := 0) 0 dX10_put_30 rfl rfl ?_
  refine X.getR (pc := 31) (b := 288) dX10_put_31 fl_X10_77 rfl (fs_X10 hW) (fp_X10_31 hW) ?_
  refine X.aload_n (pc := 34) (i := 0) 0 dX10_put_34 rfl rfl ?_
  refine X.getI (pc := 35) dX10_put_35 fl_X10_190 rfl (fs_X10 hW) ?_
  refine X.topI (y := ((μ) 265 27)) (Eq.trans (up_a (by decide) _) (Eq.trans (up_a (by decide) _) ((up_a (by decide) _)))) ?_
  refine X.iload (pc := 38) (i := 4) 4 dX10_put_38 rfl ?_
  obtain ⟨c4, h⟩ := h
  refine X.iastore (pc := 40) dX10_put_40 (fa_X10_31 hW) c4 ?_
  refine X.aload_n (pc := 41) (i := 0) 0 dX10_put_41 rfl rfl ?_
  refine X.getR (pc := 42) (b := 289) dX10_put_42 fl_X10_80 rfl (fs_X10 hW) (fp_X10_32 hW) ?_
  refine X.aload_n (pc := 45) (i := 0) 0 dX10_put_45 rfl rfl ?_
  refine X.getI (pc := 46) dX10_put_46 fl_X10_190 rfl (fs_X10 hW) ?_
  refine X.topI (y := ((μ) 265 27)) (Eq.trans (up_a (by decide) _) (Eq.trans (up_a (by decide) _) (Eq.trans (up_a (by decide) _) ((up_a (by decide) _))))) ?_
  refine X.iload (pc := 49) (i := 5) 5 dX10_put_49 rfl ?_
  obtain ⟨c5, h⟩ := h
  refine X.iastore (pc := 51) dX10_put_51 (fa_X10_32 hW) c5 ?_
  exact X.vret (pc := 52) dX10_put_52 rfl (Nat.le_of_ble_eq_true rfl) (Nat.le_of_ble_eq_true rfl) h

theorem g_X10_fillDraft_0 {sh : List (Nat × Nat)} {ν : Nat → Nat → Option Nat} {μ : Nat → Nat → Int} {f s : Nat} {Q : xQ} (hW : WF sh ν f s) {x1 : Int} {x2 : Int} {x3 : Int} {x4 : Int} {x5 : Int}
    (h : X mX10_fillDraft 3 [(0, vR 265), (1, vI x1), (2, vI x2), (3, vI x3), (4, vI x4), (5, vI x5), (6, vI x2)] [] sh (ν) (μ) 0 0 Q) :
    X mX10_fillDraft 0 [(0, vR 265), (1, vI x1), (2, vI x2), (3, vI x3), (4, vI x4), (5, vI x5)] [] sh ν μ 0 0 Q := by
  refine X.iload_n (pc := 0) (i := 2) 2 dX10_fillDraft_0 rfl rfl ?_
  refine X.istore (pc := 1) (i := 6) (ls' := [(6, vI x2), (0, vR 265), (1, vI x1), (2, vI x2), (3, vI x3), (4, vI x4), (5, vI x5)]) dX10_fillDraft_1 (by decide) rfl ?_
  exact X.pick [1, 2, 3, 4, 5, 6, 0] rfl h

theorem g_X10_fillDraft_3 {sh : List (Nat × Nat)} {ν : Nat → Nat → Option Nat} {μ : Nat → Nat → Int} {f s : Nat} {Q : xQ} (hW : WF sh ν f s) {x1 : Int} {x2 : Int} {x3 : Int} {x4 : Int} {x5 : Int} {x6 : Int}
    (h : (((w32 (x2 + x4)) ≤ x6 → Q none sh (ν) (μ)) ∧ (x6 < (w32 (x2 + x4)) → X mX10_fillDraft 15 [(0, vR 265), (1, vI x1), (2, vI x2), (3, vI x3), (4, vI x4), (5, vI x5), (6, vI x6), (7, vI x1)] [] sh (ν) (μ) 0 0 Q))) :
    X mX10_fillDraft 3 [(0, vR 265), (1, vI x1), (2, vI x2), (3, vI x3), (4, vI x4), (5, vI x5), (6, vI x6)] [] sh ν μ 0 0 Q := by
  refine X.iload (pc := 3) (i := 6) 6 dX10_fillDraft_3 rfl ?_
  refine X.iload_n (pc := 5) (i := 2) 2 dX10_fillDraft_5 rfl rfl ?_
  refine X.iload (pc := 6) (i := 4) 4 dX10_fillDraft_6 rfl ?_
  refine X.iadd (pc := 8) dX10_fillDraft_8 ?_
  refine X.icmp_ge (pc := 9) 50 dX10_fillDraft_9 (by decide) ⟨fun q9 => ?_, fun q9 => ?_⟩
  · have h := h.1 q9
    exact X.vret (pc := 50) dX10_fillDraft_50 rfl (Nat.le_of_ble_eq_true rfl) (Nat.le_of_ble_eq_true rfl) h
  · have h := h.2 q9
    refine X.iload_n (pc := 12) (i := 1) 1 dX10_fillDraft_12 rfl rfl ?_
    refine X.istore (pc := 13) (i := 7) (ls' := [(7, vI x1), (0, vR 265), (1, vI x1), (2, vI x2), (3, vI x3), (4, vI x4), (5, vI x5), (6, vI x6)]) dX10_fillDraft_13 (by decide) rfl ?_
    exact X.pick [1, 2, 3, 4, 5, 6, 7, 0] rfl h

theorem g_X10_fillDraft_15 {sh : List (Nat × Nat)} {ν : Nat → Nat → Option Nat} {μ : Nat → Nat → Int} {f s : Nat} {Q : xQ} (hW : WF sh ν f s) {x1 : Int} {x2 : Int} {x3 : Int} {x4 : Int} {x5 : Int} {x6 : Int} {x7 : Int}
    (h : (((w32 (x1 + x3)) ≤ x7 → X mX10_fillDraft 3 [(0, vR 265), (1, vI x1), (2, vI x2), (3, vI x3), (4, vI x4), (5, vI x5), (6, vI (w32 (x6 + 1)))] [] sh (ν) (μ) 0 0 Q) ∧ (x7 < (w32 (x1 + x3)) → (0 ≤ (w32 ((w32 (20 * x6)) + x7)) ∧ (w32 ((w32 (20 * x6)) + x7)) < (400 : Nat)) ∧ X mX10_fillDraft 15 [(0, vR 265), (1, vI x1), (2, vI x2), (3, vI x3), (4, vI x4), (5, vI x5), (6, vI x6), (7, vI (w32 (x7 + 1)))] [] sh (ν) (up μ 283 (Int.toNat (w32 ((w32 (20 * x6)) + x7))) x5) 0 0 Q))) :
    X mX10_fillDraft 15 [(0, vR 265), (1, vI x1), (2, vI x2), (3, vI x3), (4, vI x4), (5, vI x5), (6, vI x6), (7, vI x7)] [] sh ν μ 0 0 Q := by
  refine X.iload (pc := 15) (i := 7) 7 dX10_fillDraft_15 rfl ?_
  refine X.iload_n (pc := 17) (i := 1) 1 dX10_fillDraft_17 rfl rfl ?_
  refine X.iload_n (pc := 18) (i := 3) 3 dX10_fillDraft_18 rfl rfl ?_
  refine X.iadd (pc := 19) dX10_fillDraft_19 ?_
  refine X.icmp_ge (pc := 20) 44 dX10_fillDraft_20 (by decide) ⟨fun q9 => ?_, fun q9 => ?_⟩
  · have h := h.1 q9
    refine X.iinc (pc := 44) (i := 6) (ls' := [(6, vI (w32 (x6 + 1))), (0, vR 265), (1, vI x1), (2, vI x2), (3, vI x3), (4, vI x4), (5, vI x5), (7, vI x7)]) 6 dX10_fillDraft_44 rfl (by decide) rfl ?_
    refine X.goto (pc := 47) (tgt := 3) dX10_fillDraft_47 (by decide) ?_
    exact X.pick [1, 2, 3, 4, 5, 6, 0] rfl h
  · have h := h.2 q9
    refine X.aload_n (pc := 23) (i := 0) 0 dX10_fillDraft_23 rfl rfl ?_
    refine X.getR (pc := 24) (b := 283) dX10_fillDraft_24 fl_X10_62 rfl (fs_X10 hW) (fp_X10_24 hW) ?_
    refine X.bipush (pc := 27) (y := 20) dX10_fillDraft_27 rfl ⟨by decide, by decide⟩ ?_
    refine X.iload (pc := 29) (i := 6) 6 dX10_fillDraft_29 rfl ?_
    refine X.imul (pc := 31) dX10_fillDraft_31 ?_
    refine X.iload (pc := 32) (i := 7) 7 dX10_fillDraft_32 rfl ?_
    refine X.iadd (pc := 34) dX10_fillDraft_34 ?_
    refine X.iload (pc := 35) (i := 5) 5 dX10_fillDraft_35 rfl ?_
    obtain ⟨c1, h⟩ := h
    refine X.iastore (pc := 37) dX10_fillDraft_37 (fa_X10_24 hW) c1 ?_
    refine X.iinc (pc := 38) (i := 7) (ls' := [(7, vI (w32 (x7 + 1))), (0, vR 265), (1, vI x1), (2, vI x2), (3, vI x3), (4, vI x4), (5, vI x5), (6, vI x6)]) 7 dX10_fillDraft_38 rfl (by decide) rfl ?_
    refine X.goto (pc := 41) (tgt := 15) dX10_fillDraft_41 (by decide) ?_
    exact X.pick [1, 2, 3, 4, 5, 6, 7, 0] rfl h

theorem g_X10_drawn_0 {sh : List (Nat × Nat)} {ν : Nat → Nat → Option Nat} {μ : Nat → Nat → Int} {f s : Nat} {Q : xQ} (hW : WF sh ν f s) 
    (h : ((((μ) 265 18) ≠ 0 → Q (some (vI ((μ) 265 22))) sh (ν) (μ)) ∧ (((μ) 265 18) = 0 → Q (some (vI (-9))) sh (ν) (μ)))) :
    X mX10_drawn 0 [(0, vR 265)] [] sh ν μ 0 0 Q := by
  refine X.aload_n (pc := 0) (i := 0) 0 dX10_drawn_0 rfl rfl ?_
  refine X.getI (pc := 1) dX10_drawn_1 fl_X10_164 rfl (fs_X10 hW) ?_
  refine X.if_ne (pc := 4) 12 dX10_drawn_4 (by decide) ⟨fun q9 => ?_, fun q9 => ?_⟩
  · have h := h.1 q9
    refine X.aload_n (pc := 12) (i := 0) 0 dX10_drawn_12 rfl rfl ?_
    refine X.getI (pc := 13) dX10_drawn_13 fl_X10_211 rfl (fs_X10 hW) ?_
    exact X.iret (pc := 16) dX10_drawn_16 rfl (Nat.le_of_ble_eq_true rfl) (Nat.le_of_ble_eq_true rfl) h
  · have h := h.2 q9
    refine X.bipush (pc := 7) (y := -9) dX10_drawn_7 rfl ⟨by decide, by decide⟩ ?_
    refine X.goto (pc := 9) (tgt := 16) dX10_drawn_9 (by decide) ?_
    exact X.iret (pc := 16) dX10_drawn_16 rfl (Nat.le_of_ble_eq_true rfl) (Nat.le_of_ble_eq_true rfl) h

theorem g_X10_fault_0 {sh : List (Nat × Nat)} {ν : Nat → Nat → Option Nat} {μ : Nat → Nat → Int} {f s : Nat} {Q : xQ} (hW : WF sh ν f s) 
    (h : Q (some (vI ((μ) 265 26))) sh (ν) (μ)) :
    X mX10_fault 0 [(0, vR 265)] [] sh ν μ 0 0 Q := by
  refine X.aload_n (pc := 0) (i := 0) 0 dX10_fault_0 rfl rfl ?_
  refine X.getI (pc := 1) dX10_fault_1 fl_X10_201 rfl (fs_X10 hW) ?_
  exact X.iret (pc := 4) dX10_fault_4 rfl (Nat.le_of_ble_eq_true rfl) (Nat.le_of_ble_eq_true rfl) h

theorem g_X10_boards_0 {sh : List (Nat × Nat)} {ν : Nat → Nat → Option Nat} {μ : Nat → Nat → Int} {f s : Nat} {Q : xQ} (hW : WF sh ν f s) {x1 : Int} {x2 : Int}
    (h : X mX10_boards 17 [(0, vR 265), (3, vI 0)] [] sh (ν) (up (up (up μ 265 35 x1) 265 36 x2) 265 50 0) 0 0 Q) :
    X mX10_boards 0 [(0, vR 265), (1, vI x1), (2, vI x2)] [] sh ν μ 0 0 Q := by
  refine X.aload_n (pc := 0) (i := 0) 0 dX10_boards_0 rfl rfl ?_
  refine X.iload_n (pc := 1) (i := 1) 1 dX10_boards_1 rfl rfl ?_
  refine X.putI (pc := 2) dX10_boards_2 fl_X10_218 rfl (fun h9 => by cases h9) (fs_X10 hW) (Or.inl rfl) ?_
  refine X.aload_n (pc := 5) (i := 0) 0 dX10_boards_5 rfl rfl ?_
  refine X.iload_n (pc := 6) (i := 2) 2 dX10_boards_6 rfl rfl ?_
  refine X.putI (pc := 7) dX10_boards_7 fl_X10_221 rfl (fun h9 => by cases h9) (fs_X10 hW) (Or.inl rfl) ?_
  refine X.aload_n (pc := 10) (i := 0) 0 dX10_boards_10 rfl rfl ?_
  refine X.iconst (pc := 11) dX10_boards_11 ⟨by decide, by decide⟩ ?_
  refine X.putI (pc := 12) dX10_boards_12 fl_X10_214 rfl (fun h9 => by cases h9) (fs_X10 hW) (Or.inr (Or.inl rfl)) ?_
  refine X.iconst (pc := 15) dX10_boards_15 ⟨by decide, by decide⟩ ?_
  refine X.istore_n (pc := 16) (i := 3) (ls' := [(3, vI 0), (0, vR 265), (1, vI x1), (2, vI x2)]) dX10_boards_16 rfl (by decide) rfl ?_
  exact X.pick [1, 0] rfl h

theorem g_X10_boards_17 {sh : List (Nat × Nat)} {ν : Nat → Nat → Option Nat} {μ : Nat → Nat → Int} {f s : Nat} {Q : xQ} (hW : WF sh ν f s) {x3 : Int}
    (h : ((81 ≤ x3 → Q none sh (ν) (μ)) ∧ (x3 < 81 → (0 ≤ x3 ∧ x3 < (81 : Nat)) ∧ X mX10_boards 17 [(0, vR 265), (3, vI (w32 (x3 + 1)))] [] sh (ν) (up μ 292 (Int.toNat x3) 0) 0 0 Q))) :
    X mX10_boards 17 [(0, vR 265), (3, vI x3)] [] sh ν μ 0 0 Q := by
  refine X.iload_n (pc := 17) (i := 3) 1 dX10_boards_17 rfl rfl ?_
  refine X.bipush (pc := 18) (y := 81) dX10_boards_18 rfl ⟨by decide, by decide⟩ ?_
  refine X.icmp_ge (pc := 20) 36 dX10_boards_20 (by decide) ⟨fun q9 => ?_, fun q9 => ?_⟩
  · have h := h.1 q9
    exact X.vret (pc := 36) dX10_boards_36 rfl (Nat.le_of_ble_eq_true rfl) (Nat.le_of_ble_eq_true rfl) h
  · have h := h.2 q9
    refine X.aload_n (pc := 23) (i := 0) 0 dX10_boards_23 rfl rfl ?_
    refine X.getR (pc := 24) (b := 292) dX10_boards_24 fl_X10_89 rfl (fs_X10 hW) (fp_X10_37 hW) ?_
    refine X.iload_n (pc := 27) (i := 3) 1 dX10_boards_27 rfl rfl ?_
    refine X.iconst (pc := 28) dX10_boards_28 ⟨by decide, by decide⟩ ?_
    obtain ⟨c1, h⟩ := h
    refine X.iastore (pc := 29) dX10_boards_29 (fa_X10_37 hW) c1 ?_
    refine X.iinc (pc := 30) (i := 3) (ls' := [(3, vI (w32 (x3 + 1))), (0, vR 265)]) 1 dX10_boards_30 rfl (by decide) rfl ?_
    refine X.goto (pc := 33) (tgt := 17) dX10_boards_33 (by decide) ?_
    exact X.pick [1, 0] rfl h

theorem g_X10_place_0 {sh : List (Nat × Nat)} {ν : Nat → Nat → Option Nat} {μ : Nat → Nat → Int} {f s : Nat} {Q : xQ} (hW : WF sh ν f s) {x1 : Int} {x2 : Int} {x3 : Int} {x4 : Int}
    (h : ((((μ) 265 42) = 0 → Q (some (vI (w32 (52488 + (w32 (8 * (w32 ((w32 ((w32 (20 * (w32 (x4 - 1)))) + x3)) - 1)))))))) sh (ν) (μ)) ∧ (((μ) 265 42) ≠ 0 → Q (some (vI (w32 (8 * (w32 ((w32 ((w32 ((w32 ((w32 (729 * x2)) + (w32 (81 * x1)))) + (w32 (9 * (w32 (x4 - 1)))))) + x3)) - 1)))))) sh (ν) (μ)))) :
    X mX10_place 0 [(0, vR 265), (1, vI x1), (2, vI x2), (3, vI x3), (4, vI x4)] [] sh ν μ 0 0 Q := by
  refine X.aload_n (pc := 0) (i := 0) 0 dX10_place_0 rfl rfl ?_
  refine X.getI (pc := 1) dX10_place_1 fl_X10_229 rfl (fs_X10 hW) ?_
  refine X.if_eq (pc := 4) 35 dX10_place_4 (by decide) ⟨fun q9 => ?_, fun q9 => ?_⟩
  · have h := h.1 q9
    refine X.ldc (pc := 35) (y := 52488) dX10_place_35 kc_X10_232 rfl ⟨by decide, by decide⟩ ?_
    refine X.bipush (pc := 37) (y := 8) dX10_place_37 rfl ⟨by decide, by decide⟩ ?_
    refine X.bipush (pc := 39) (y := 20) dX10_place_39 rfl ⟨by decide, by decide⟩ ?_
    refine X.iload (pc := 41) (i := 4) 4 dX10_place_41 rfl ?_
    refine X.iconst (pc := 43) dX10_place_43 ⟨by decide, by decide⟩ ?_
    refine X.isub (pc := 44) dX10_place_44 ?_
    refine X.imul (pc := 45) dX10_place_45 ?_
    refine X.iload_n (pc := 46) (i := 3) 3 dX10_place_46 rfl rfl ?_
    refine X.iadd (pc := 47) dX10_place_47 ?_
    refine X.iconst (pc := 48) dX10_place_48 ⟨by decide, by decide⟩ ?_
    refine X.isub (pc := 49) dX10_place_49 ?_
    refine X.imul (pc := 50) dX10_place_50 ?_
    refine X.iadd (pc := 51) dX10_place_51 ?_
    exact X.iret (pc := 52) dX10_place_52 rfl (Nat.le_of_ble_eq_true rfl) (Nat.le_of_ble_eq_true rfl) h
  · have h := h.2 q9
    refine X.bipush (pc := 7) (y := 8) dX10_place_7 rfl ⟨by decide, by decide⟩ ?_
    refine X.sipush (pc := 9) (y := 729) dX10_place_9 rfl ⟨by decide, by decide⟩ ?_
    refine X.iload_n (pc := 12) (i := 2) 2 dX10_place_12 rfl rfl ?_
    refine X.imul (pc := 13) dX10_place_13 ?_
    refine X.bipush (pc := 14) (y := 81) dX10_place_14 rfl ⟨by decide, by decide⟩ ?_
    refine X.iload_n (pc := 16) (i := 1) 1 dX10_place_16 rfl rfl ?_
    refine X.imul (pc := 17) dX10_place_17 ?_
    refine X.iadd (pc := 18) dX10_place_18 ?_
    refine X.bipush (pc := 19) (y := 9) dX10_place_19 rfl ⟨by decide, by decide⟩ ?_
    refine X.iload (pc := 21) (i := 4) 4 dX10_place_21 rfl ?_
    refine X.iconst (pc := 23) dX10_place_23 ⟨by decide, by decide⟩ ?_
    refine X.isub (pc := 24) dX10_place_24 ?_
    refine X.imul (pc := 25) dX10_place_25 ?_
    refine X.iadd (pc := 26) dX10_place_26 ?_
    refine X.iload_n (pc := 27) (i := 3) 3 dX10_place_27 rfl rfl ?_
    refine X.iadd (pc := 28) dX10_place_28 ?_
    refine X.iconst (pc := 29) dX10_place_29 ⟨by decide, by decide⟩ ?_
    refine X.isub (pc := 30) dX10_place_30 ?_
    refine X.imul (pc := 31) dX10_place_31 ?_
    refine X.goto (pc := 32) (tgt := 52) dX10_place_32 (by decide) ?_
    exact X.iret (pc := 52) dX10_place_52 rfl (Nat.le_of_ble_eq_true rfl) (Nat.le_of_ble_eq_true rfl) h

theorem g_X10_isAll_0 {sh : List (Nat × Nat)} {ν : Nat → Nat → Option Nat} {μ : Nat → Nat → Int} {f s : Nat} {Q : xQ} (hW : WF sh ν f s) {x1 : Int} {x2 : Int} {x3 : Int} {x4 : Int} {x5 : Int}
    (h : X mX10_isAll 6 [(0, vR 265), (1, vI x1), (2, vI x2), (3, vI x3), (4, vI x4), (5, vI x5), (6, vI 1), (7, vI x2)] [] sh (ν) (μ) 0 0 Q) :
    X mX10_isAll 0 [(0, vR 265), (1, vI x1), (2, vI x2), (3, vI x3), (4, vI x4), (5, vI x5)] [] sh ν μ 0 0 Q := by
  refine X.iconst (pc := 0) dX10_isAll_0 ⟨by decide, by decide⟩ ?_
  refine X.istore (pc := 1) (i := 6) (ls' := [(6, vI 1), (0, vR 265), (1, vI x1), (2, vI x2), (3, vI x3), (4, vI x4), (5, vI x5)]) dX10_isAll_1 (by decide) rfl ?_
  refine X.iload_n (pc := 3) (i := 2) 3 dX10_isAll_3 rfl rfl ?_
  refine X.istore (pc := 4) (i := 7) (ls' := [(7, vI x2), (6, vI 1), (0, vR 265), (1, vI x1), (2, vI x2), (3, vI x3), (4, vI x4), (5, vI x5)]) dX10_isAll_4 (by decide) rfl ?_
  exact X.pick [2, 3, 4, 5, 6, 7, 1, 0] rfl h

theorem g_X10_isAll_6 {sh : List (Nat × Nat)} {ν : Nat → Nat → Option Nat} {μ : Nat → Nat → Int} {f s : Nat} {Q : xQ} (hW : WF sh ν f s) {x1 : Int} {x2 : Int} {x3 : Int} {x4 : Int} {x5 : Int} {x6 : Int} {x7 : Int}
    (h : (((w32 (x2 + x4)) ≤ x7 → (x6 = 0 ∨ x6 = 1) ∧ Q (some (vI x6)) sh (ν) (μ)) ∧ (x7 < (w32 (x2 + x4)) → ((x6 = 0 → (x6 = 0 ∨ x6 = 1) ∧ Q (some (vI x6)) sh (ν) (μ)) ∧ (x6 ≠ 0 → X mX10_isAll 23 [(0, vR 265), (1, vI x1), (2, vI x2), (3, vI x3), (4, vI x4), (5, vI x5), (6, vI x6), (7, vI x7), (8, vI x1)] [] sh (ν) (μ) 0 0 Q))))) :
    X mX10_isAll 6 [(0, vR 265), (1, vI x1), (2, vI x2), (3, vI x3), (4, vI x4), (5, vI x5), (6, vI x6), (7, vI x7)] [] sh ν μ 0 0 Q := by
  refine X.iload (pc := 6) (i := 7) 7 dX10_isAll_6 rfl ?_
  refine X.iload_n (pc := 8) (i := 2) 2 dX10_isAll_8 rfl rfl ?_
  refine X.iload (pc := 9) (i := 4) 4 dX10_isAll_9 rfl ?_
  refine X.iadd (pc := 11) dX10_isAll_11 ?_
  refine X.icmp_ge (pc := 12) 73 dX10_isAll_12 (by decide) ⟨fun q9 => ?_, fun q9 => ?_⟩
  · have h := h.1 q9
    refine X.iload (pc := 73) (i := 6) 6 dX10_isAll_73 rfl ?_
    obtain ⟨c1, h⟩ := h
    exact X.zret (pc := 75) dX10_isAll_75 rfl c1 (Nat.le_of_ble_eq_true rfl) (Nat.le_of_ble_eq_true rfl) h
  · have h := h.2 q9
    refine X.iload (pc := 15) (i := 6) 6 dX10_isAll_15 rfl ?_
    refine X.if_eq (pc := 17) 73 dX10_isAll_17 (by decide) ⟨fun q9 => ?_, fun q9 => ?_⟩
    · have h := h.1 q9
      refine X.iload (pc := 73) (i := 6) 6 dX10_isAll_73 rfl ?_
      obtain ⟨c2, h⟩ := h
      exact X.zret (pc := 75) dX10_isAll_75 rfl c2 (Nat.le_of_ble_eq_true rfl) (Nat.le_of_ble_eq_true rfl) h
    · have h := h.2 q9
      refine X.iload_n (pc := 20) (i := 1) 1 dX10_isAll_20 rfl rfl ?_
      refine X.istore (pc := 21) (i := 8) (ls' := [(8, vI x1), (0, vR 265), (1, vI x1), (2, vI x2), (3, vI x3), (4, vI x4), (5, vI x5), (6, vI x6), (7, vI x7)]) dX10_isAll_21 (by decide) rfl ?_
      exact X.pick [1, 2, 3, 4, 5, 6, 7, 8, 0] rfl h

theorem g_X10_isAll_23 {sh : List (Nat × Nat)} {ν : Nat → Nat → Option Nat} {μ : Nat → Nat → Int} {f s : Nat} {Q : xQ} (hW : WF sh ν f s) {x1 : Int} {x2 : Int} {x3 : Int} {x4 : Int} {x5 : Int} {x6 : Int} {x7 : Int} {x8 : Int}
    (h : (((w32 (x1 + x3)) ≤ x8 → X mX10_isAll 67 [(0, vR 265), (1, vI x1), (2, vI x2), (3, vI x3), (4, vI x4), (5, vI x5), (6, vI x6), (7, vI x7)] [] sh (ν) (μ) 0 0 Q) ∧ (x8 < (w32 (x1 + x3)) → ((x6 = 0 → X mX10_isAll 67 [(0, vR 265), (1, vI x1), (2, vI x2), (3, vI x3), (4, vI x4), (5, vI x5), (6, vI x6), (7, vI x7)] [] sh (ν) (μ) 0 0 Q) ∧ (x6 ≠ 0 → (0 ≤ (w32 ((w32 (9 * x7)) + x8)) ∧ (w32 ((w32 (9 * x7)) + x8)) < (81 : Nat)) ∧ ((((μ) 292 (Int.toNat (w32 ((w32 (9 * x7)) + x8)))) ≠ x5 → X mX10_isAll 59 [(0, vR 265), (1, vI x1), (2, vI x2), (3, vI x3), (4, vI x4), (5, vI x5), (7, vI x7), (8, vI x8)] [vI 0] sh (ν) (μ) 0 0 Q) ∧ (((μ) 292 (Int.toNat (w32 ((w32 (9 * x7)) + x8)))) = x5 → X mX10_isAll 59 [(0, vR 265), (1, vI x1), (2, vI x2), (3, vI x3), (4, vI x4), (5, vI x5), (7, vI x7), (8, vI x8)] [vI 1] sh (ν) (μ) 0 0 Q))))))) :
    X mX10_isAll 23 [(0, vR 265), (1, vI x1), (2, vI x2), (3, vI x3), (4, vI x4), (5, vI x5), (6, vI x6), (7, vI x7), (8, vI x8)] [] sh ν μ 0 0 Q := by
  refine X.iload (pc := 23) (i := 8) 8 dX10_isAll_23 rfl ?_
  refine X.iload_n (pc := 25) (i := 1) 1 dX10_isAll_25 rfl rfl ?_
  refine X.iload_n (pc := 26) (i := 3) 3 dX10_isAll_26 rfl rfl ?_
  refine X.iadd (pc := 27) dX10_isAll_27 ?_
  refine X.icmp_ge (pc := 28) 67 dX10_isAll_28 (by decide) ⟨fun q9 => ?_, fun q9 => ?_⟩
  · have h := h.1 q9
    exact X.pick [0, 1, 2, 3, 4, 5, 6, 7] rfl h
  · have h := h.2 q9
    refine X.iload (pc := 31) (i := 6) 6 dX10_isAll_31 rfl ?_
    refine X.if_eq (pc := 33) 67 dX10_isAll_33 (by decide) ⟨fun q9 => ?_, fun q9 => ?_⟩
    · have h := h.1 q9
      exact X.pick [0, 1, 2, 3, 4, 5, 6, 7] rfl h
    · have h := h.2 q9
      refine X.aload_n (pc := 36) (i := 0) 0 dX10_isAll_36 rfl rfl ?_
      refine X.getR (pc := 37) (b := 292) dX10_isAll_37 fl_X10_89 rfl (fs_X10 hW) (fp_X10_37 hW) ?_
      refine X.bipush (pc := 40) (y := 9) dX10_isAll_40 rfl ⟨by decide, by decide⟩ ?_
      refine X.iload (pc := 42) (i := 7) 7 dX10_isAll_42 rfl ?_
      refine X.imul (pc := 44) dX10_isAll_44 ?_
      refine X.iload (pc := 45) (i := 8) 8 dX10_isAll_45 rfl ?_
      refine X.iadd (pc := 47) dX10_isAll_47 ?_
      obtain ⟨c1, h⟩ := h
      refine X.iaload (pc := 48) dX10_isAll_48 (fa_X10_37 hW) c1 ?_
      refine X.iload (pc := 49) (i := 5) 5 dX10_isAll_49 rfl ?_
      refine X.icmp_ne (pc := 51) 58 dX10_isAll_51 (by decide) ⟨fun q9 => ?_, fun q9 => ?_⟩
      · have h := h.1 q9
        refine X.iconst (pc := 58) dX10_isAll_58 ⟨by decide, by decide⟩ ?_
        exact X.pick [0, 1, 2, 3, 4, 5, 7, 8] rfl h
      · have h := h.2 q9
        refine X.iconst (pc := 54) dX10_isAll_54 ⟨by decide, by decide⟩ ?_
        refine X.goto (pc := 55) (tgt := 59) dX10_isAll_55 (by decide) ?_
        exact X.pick [0, 1, 2, 3, 4, 5, 7, 8] rfl h

theorem g_X10_isAll_59 {sh : List (Nat × Nat)} {ν : Nat → Nat → Option Nat} {μ : Nat → Nat → Int} {f s : Nat} {Q : xQ} (hW : WF sh ν f s) {x1 : Int} {x2 : Int} {x3 : Int} {x4 : Int} {x5 : Int} {x7 : Int} {x8 : Int} {y0 : Int}
    (h : X mX10_isAll 23 [(0, vR 265), (1, vI x1), (2, vI x2), (3, vI x3), (4, vI x4), (5, vI x5), (6, vI y0), (7, vI x7), (8, vI (w32 (x8 + 1)))] [] sh (ν) (μ) 0 0 Q) :
    X mX10_isAll 59 [(0, vR 265), (1, vI x1), (2, vI x2), (3, vI x3), (4, vI x4), (5, vI x5), (7, vI x7), (8, vI x8)] [vI y0] sh ν μ 0 0 Q := by
  refine X.istore (pc := 59) (i := 6) (ls' := [(6, vI y0), (0, vR 265), (1, vI x1), (2, vI x2), (3, vI x3), (4, vI x4), (5, vI x5), (7, vI x7), (8, vI x8)]) dX10_isAll_59 (by decide) rfl ?_
  refine X.iinc (pc := 61) (i := 8) (ls' := [(8, vI (w32 (x8 + 1))), (6, vI y0), (0, vR 265), (1, vI x1), (2, vI x2), (3, vI x3), (4, vI x4), (5, vI x5), (7, vI x7)]) 8 dX10_isAll_61 rfl (by decide) rfl ?_
  refine X.goto (pc := 64) (tgt := 23) dX10_isAll_64 (by decide) ?_
  exact X.pick [2, 3, 4, 5, 6, 7, 1, 8, 0] rfl h

theorem g_X10_isAll_67 {sh : List (Nat × Nat)} {ν : Nat → Nat → Option Nat} {μ : Nat → Nat → Int} {f s : Nat} {Q : xQ} (hW : WF sh ν f s) {x1 : Int} {x2 : Int} {x3 : Int} {x4 : Int} {x5 : Int} {x6 : Int} {x7 : Int}
    (h : X mX10_isAll 6 [(0, vR 265), (1, vI x1), (2, vI x2), (3, vI x3), (4, vI x4), (5, vI x5), (6, vI x6), (7, vI (w32 (x7 + 1)))] [] sh (ν) (μ) 0 0 Q) :
    X mX10_isAll 67 [(0, vR 265), (1, vI x1), (2, vI x2), (3, vI x3), (4, vI x4), (5, vI x5), (6, vI x6), (7, vI x7)] [] sh ν μ 0 0 Q := by
  refine X.iinc (pc := 67) (i := 7) (ls' := [(7, vI (w32 (x7 + 1))), (0, vR 265), (1, vI x1), (2, vI x2), (3, vI x3), (4, vI x4), (5, vI x5), (6, vI x6)]) 7 dX10_isAll_67 rfl (by decide) rfl ?_
  refine X.goto (pc := 70) (tgt := 6) dX10_isAll_70 (by decide) ?_
  exact X.pick [1, 2, 3, 4, 5, 6, 7, 0] rfl h

theorem g_X10_plus_0 {sh : List (Nat × Nat)} {ν : Nat → Nat → Option Nat} {μ : Nat → Nat → Int} {f s : Nat} {Q : xQ} (hW : WF sh ν f s) {x0 : Int} {x2 : Int}
    (h : ((x0 < 0 → Q (some (vL (-10))) sh (ν) (μ)) ∧ (0 ≤ x0 → ((0 ≤ x2 → (((w64 (x0 + x2)) ≤ 1000000000000000000 → Q (some (vL (w64 (x0 + x2)))) sh (ν) (μ)) ∧ (1000000000000000000 < (w64 (x0 + x2)) → Q (some (vL 1000000000000000000)) sh (ν) (μ)))) ∧ (x2 < 0 → Q (some (vL (-10))) sh (ν) (μ)))))) :
    X mX10_plus 0 [(0, vL x0), (2, vL x2)] [] sh ν μ 0 0 Q := by
  refine X.lload_n (pc := 0) (i := 0) 0 dX10_plus_0 rfl rfl ?_
  refine X.lconst (pc := 1) (y := 0) dX10_plus_1 rfl ⟨by decide, by decide⟩ ?_
  refine X.lcmp (pc := 2) dX10_plus_2 ?_
  refine X.if_lt (pc := 3) 12 dX10_plus_3 (by decide) ⟨fun q9 => ?_, fun q9 => ?_⟩
  · have h := h.1 (xl_lt.mp q9)
    refine X.ldc2 (pc := 12) (y := -10) dX10_plus_12 kc_X10_233 rfl ⟨by decide, by decide⟩ ?_
    refine X.goto (pc := 15) (tgt := 37) dX10_plus_15 (by decide) ?_
    exact X.lret (pc := 37) dX10_plus_37 rfl (Nat.le_of_ble_eq_true rfl) (Nat.le_of_ble_eq_true rfl) h
  · have h := h.2 (xl_ge.mp q9)
    refine X.lload_n (pc := 6) (i := 2) 1 dX10_plus_6 rfl rfl ?_
    refine X.lconst (pc := 7) (y := 0) dX10_plus_7 rfl ⟨by decide, by decide⟩ ?_
    refine X.lcmp (pc := 8) dX10_plus_8 ?_
    refine X.if_ge (pc := 9) 18 dX10_plus_9 (by decide) ⟨fun q9 => ?_, fun q9 => ?_⟩
    · have h := h.1 (xl_ge.mp q9)
      refine X.lload_n (pc := 18) (i := 0) 0 dX10_plus_18 rfl rfl ?_
      refine X.lload_n (pc := 19) (i := 2) 1 dX10_plus_19 rfl rfl ?_
      refine X.ladd (pc := 20) dX10_plus_20 ?_
      refine X.ldc2 (pc := 21) (y := 1000000000000000000) dX10_plus_21 kc_X10_235 rfl ⟨by decide, by decide⟩ ?_
      refine X.lcmp (pc := 24) dX10_plus_24 ?_
      refine X.if_le (pc := 25) 34 dX10_plus_25 (by decide) ⟨fun q9 => ?_, fun q9 => ?_⟩
      · have h := h.1 (xl_le.mp q9)
        refine X.lload_n (pc := 34) (i := 0) 0 dX10_plus_34 rfl rfl ?_
        refine X.lload_n (pc := 35) (i := 2) 1 dX10_plus_35 rfl rfl ?_
        refine X.ladd (pc := 36) dX10_plus_36 ?_
        exact X.lret (pc := 37) dX10_plus_37 rfl (Nat.le_of_ble_eq_true rfl) (Nat.le_of_ble_eq_true rfl) h
      · have h := h.2 (xl_gt.mp q9)
        refine X.ldc2 (pc := 28) (y := 1000000000000000000) dX10_plus_28 kc_X10_235 rfl ⟨by decide, by decide⟩ ?_
        refine X.goto (pc := 31) (tgt := 37) dX10_plus_31 (by decide) ?_
        exact X.lret (pc := 37) dX10_plus_37 rfl (Nat.le_of_ble_eq_true rfl) (Nat.le_of_ble_eq_true rfl) h
    · have h := h.2 (xl_lt.mp q9)
      refine X.ldc2 (pc := 12) (y := -10) dX10_plus_12 kc_X10_233 rfl ⟨by decide, by decide⟩ ?_
      refine X.goto (pc := 15) (tgt := 37) dX10_plus_15 (by decide) ?_
      exact X.lret (pc := 37) dX10_plus_37 rfl (Nat.le_of_ble_eq_true rfl) (Nat.le_of_ble_eq_true rfl) h

theorem g_X10_mult_0 {sh : List (Nat × Nat)} {ν : Nat → Nat → Option Nat} {μ : Nat → Nat → Int} {f s : Nat} {Q : xQ} (hW : WF sh ν f s) {x0 : Int} {x2 : Int}
    (h : ((x0 = 0 → Q (some (vL 0)) sh (ν) (μ)) ∧ (x0 ≠ 0 → ((x2 ≠ 0 → ((x0 < 0 → Q (some (vL (-10))) sh (ν) (μ)) ∧ (0 ≤ x0 → ((0 ≤ x2 → (x2 ≠ 0) ∧ ((x0 ≤ (w64 (Int.tdiv 1000000000000000000 x2)) → Q (some (vL (w64 (x0 * x2)))) sh (ν) (μ)) ∧ ((w64 (Int.tdiv 1000000000000000000 x2)) < x0 → Q (some (vL 1000000000000000000)) sh (ν) (μ)))) ∧ (x2 < 0 → Q (some (vL (-10))) sh (ν) (μ)))))) ∧ (x2 = 0 → Q (some (vL 0)) sh (ν) (μ)))))) :
    X mX10_mult 0 [(0, vL x0), (2, vL x2)] [] sh ν μ 0 0 Q := by
  refine X.lload_n (pc := 0) (i := 0) 0 dX10_mult_0 rfl rfl ?_
  refine X.lconst (pc := 1) (y := 0) dX10_mult_1 rfl ⟨by decide, by decide⟩ ?_
  refine X.lcmp (pc := 2) dX10_mult_2 ?_
  refine X.if_eq (pc := 3) 12 dX10_mult_3 (by decide) ⟨fun q9 => ?_, fun q9 => ?_⟩
  · have h := h.1 (xl_eq.mp q9)
    refine X.lconst (pc := 12) (y := 0) dX10_mult_12 rfl ⟨by decide, by decide⟩ ?_
    exact X.lret (pc := 13) dX10_mult_13 rfl (Nat.le_of_ble_eq_true rfl) (Nat.le_of_ble_eq_true rfl) h
  · have h := h.2 (xl_ne.mp q9)
    refine X.lload_n (pc := 6) (i := 2) 1 dX10_mult_6 rfl rfl ?_
    refine X.lconst (pc := 7) (y := 0) dX10_mult_7 rfl ⟨by decide, by decide⟩ ?_
    refine X.lcmp (pc := 8) dX10_mult_8 ?_
    refine X.if_ne (pc := 9) 14 dX10_mult_9 (by decide) ⟨fun q9 => ?_, fun q9 => ?_⟩
    · have h := h.1 (xl_ne.mp q9)
      refine X.lload_n (pc := 14) (i := 0) 0 dX10_mult_14 rfl rfl ?_
      refine X.lconst (pc := 15) (y := 0) dX10_mult_15 rfl ⟨by decide, by decide⟩ ?_
      refine X.lcmp (pc := 16) dX10_mult_16 ?_
      refine X.if_lt (pc := 17) 26 dX10_mult_17 (by decide) ⟨fun q9 => ?_, fun q9 => ?_⟩
      · have h := h.1 (xl_lt.mp q9)
        refine X.ldc2 (pc := 26) (y := -10) dX10_mult_26 kc_X10_233 rfl ⟨by decide, by decide⟩ ?_
        refine X.goto (pc := 29) (tgt := 51) dX10_mult_29 (by decide) ?_
        exact X.lret (pc := 51) dX10_mult_51 rfl (Nat.le_of_ble_eq_true rfl) (Nat.le_of_ble_eq_true rfl) h
      · have h := h.2 (xl_ge.mp q9)
        refine X.lload_n (pc := 20) (i := 2) 1 dX10_mult_20 rfl rfl ?_
        refine X.lconst (pc := 21) (y := 0) dX10_mult_21 rfl ⟨by decide, by decide⟩ ?_
        refine X.lcmp (pc := 22) dX10_mult_22 ?_
        refine X.if_ge (pc := 23) 32 dX10_mult_23 (by decide) ⟨fun q9 => ?_, fun q9 => ?_⟩
        · have h := h.1 (xl_ge.mp q9)
          refine X.lload_n (pc := 32) (i := 0) 0 dX10_mult_32 rfl rfl ?_
          refine X.ldc2 (pc := 33) (y := 1000000000000000000) dX10_mult_33 kc_X10_235 rfl ⟨by decide, by decide⟩ ?_
          refine X.lload_n (pc := 36) (i := 2) 1 dX10_mult_36 rfl rfl ?_
          obtain ⟨c1, h⟩ := h
          refine X.ldiv (pc := 37) dX10_mult_37 c1 ?_
          refine X.lcmp (pc := 38) dX10_mult_38 ?_
          refine X.if_le (pc := 39) 48 dX10_mult_39 (by decide) ⟨fun q9 => ?_, fun q9 => ?_⟩
          · have h := h.1 (xl_le.mp q9)
            refine X.lload_n (pc := 48) (i := 0) 0 dX10_mult_48 rfl rfl ?_
            refine X.lload_n (pc := 49) (i := 2) 1 dX10_mult_49 rfl rfl ?_
            refine X.lmul (pc := 50) dX10_mult_50 ?_
            exact X.lret (pc := 51) dX10_mult_51 rfl (Nat.le_of_ble_eq_true rfl) (Nat.le_of_ble_eq_true rfl) h
          · have h := h.2 (xl_gt.mp q9)
            refine X.ldc2 (pc := 42) (y := 1000000000000000000) dX10_mult_42 kc_X10_235 rfl ⟨by decide, by decide⟩ ?_
            refine X.goto (pc := 45) (tgt := 51) dX10_mult_45 (by decide) ?_
            exact X.lret (pc := 51) dX10_mult_51 rfl (Nat.le_of_ble_eq_true rfl) (Nat.le_of_ble_eq_true rfl) h
        · have h := h.2 (xl_lt.mp q9)
          refine X.ldc2 (pc := 26) (y := -10) dX10_mult_26 kc_X10_233 rfl ⟨by decide, by decide⟩ ?_
          refine X.goto (pc := 29) (tgt := 51) dX10_mult_29 (by decide) ?_
          exact X.lret (pc := 51) dX10_mult_51 rfl (Nat.le_of_ble_eq_true rfl) (Nat.le_of_ble_eq_true rfl) h
    · have h := h.2 (xl_eq.mp q9)
      refine X.lconst (pc := 12) (y := 0) dX10_mult_12 rfl ⟨by decide, by decide⟩ ?_
      exact X.lret (pc := 13) dX10_mult_13 rfl (Nat.le_of_ble_eq_true rfl) (Nat.le_of_ble_eq_true rfl) h

theorem g_X10_findMade_0 {sh : List (Nat × Nat)} {ν : Nat → Nat → Option Nat} {μ : Nat → Nat → Int} {f s : Nat} {Q : xQ} (hW : WF sh ν f s) 
    (h : X mX10_findMade 2 [(0, vR 265), (1, vI 0)] [] sh (ν) (μ) 0 0 Q) :
    X mX10_findMade 0 [(0, vR 265)] [] sh ν μ 0 0 Q := by
  refine X.iconst (pc := 0) dX10_findMade_0 ⟨by decide, by decide⟩ ?_
  refine X.istore_n (pc := 1) (i := 1) (ls' := [(1, vI 0), (0, vR 265)]) dX10_findMade_1 rfl (by decide) rfl ?_
  exact X.pick [1, 0] rfl h

theorem g_X10_findMade_2 {sh : List (Nat × Nat)} {ν : Nat → Nat → Option Nat} {μ : Nat → Nat → Int} {f s : Nat} {Q : xQ} (hW : WF sh ν f s) {x1 : Int}
    (h : ((8 ≤ x1 → X mX10_findMade 38 [(0, vR 265), (1, vI 0)] [] sh (ν) (μ) 0 0 Q) ∧ (x1 < 8 → (0 ≤ x1 ∧ x1 < (8 : Nat)) ∧ ((((μ) 297 (Int.toNat x1)) = 0 → X mX10_findMade 29 [(0, vR 265), (1, vI x1)] [vI 0, vI x1, vR 299] sh (ν) (μ) 0 0 Q) ∧ (((μ) 297 (Int.toNat x1)) ≠ 0 → X mX10_findMade 29 [(0, vR 265), (1, vI x1)] [vI 1, vI x1, vR 299] sh (ν) (μ) 0 0 Q))))) :
    X mX10_findMade 2 [(0, vR 265), (1, vI x1)] [] sh ν μ 0 0 Q := by
  refine X.iload_n (pc := 2) (i := 1) 1 dX10_findMade_2 rfl rfl ?_
  refine X.bipush (pc := 3) (y := 8) dX10_findMade_3 rfl ⟨by decide, by decide⟩ ?_
  refine X.icmp_ge (pc := 5) 36 dX10_findMade_5 (by decide) ⟨fun q9 => ?_, fun q9 => ?_⟩
  · have h := h.1 q9
    refine X.iconst (pc := 36) dX10_findMade_36 ⟨by decide, by decide⟩ ?_
    refine X.istore_n (pc := 37) (i := 1) (ls' := [(1, vI 0), (0, vR 265)]) dX10_findMade_37 rfl (by decide) rfl ?_
    exact X.pick [1, 0] rfl h
  · have h := h.2 q9
    refine X.aload_n (pc := 8) (i := 0) 0 dX10_findMade_8 rfl rfl ?_
    refine X.getR (pc := 9) (b := 299) dX10_findMade_9 fl_X10_112 rfl (fs_X10 hW) (fp_X10_45 hW) ?_
    refine X.iload_n (pc := 12) (i := 1) 1 dX10_findMade_12 rfl rfl ?_
    refine X.aload_n (pc := 13) (i := 0) 0 dX10_findMade_13 rfl rfl ?_
    refine X.getR (pc := 14) (b := 297) dX10_findMade_14 fl_X10_106 rfl (fs_X10 hW) (fp_X10_43 hW) ?_
    refine X.iload_n (pc := 17) (i := 1) 1 dX10_findMade_17 rfl rfl ?_
    obtain ⟨c1, h⟩ := h
    refine X.laload (pc := 18) dX10_findMade_18 (fa_X10_43 hW) c1 ?_
    refine X.lconst (pc := 19) (y := 0) dX10_findMade_19 rfl ⟨by decide, by decide⟩ ?_
    refine X.lcmp (pc := 20) dX10_findMade_20 ?_
    refine X.if_eq (pc := 21) 28 dX10_findMade_21 (by decide) ⟨fun q9 => ?_, fun q9 => ?_⟩
    · have h := h.1 (xl_eq.mp q9)
      refine X.iconst (pc := 28) dX10_findMade_28 ⟨by decide, by decide⟩ ?_
      exact h
    · have h := h.2 (xl_ne.mp q9)
      refine X.iconst (pc := 24) dX10_findMade_24 ⟨by decide, by decide⟩ ?_
      refine X.goto (pc := 25) (tgt := 29) dX10_findMade_25 (by decide) ?_
      exact h

theorem g_X10_findMade_29 {sh : List (Nat × Nat)} {ν : Nat → Nat → Option Nat} {μ : Nat → Nat → Int} {f s : Nat} {Q : xQ} (hW : WF sh ν f s) {x1 : Int} {q0 nq0 : Nat} (hq0 : sh[q0]? = some (3, nq0)) {y1 : Int} {y2 : Int}
    (h : (0 ≤ y1 ∧ y1 < (nq0 : Nat)) ∧ (y2 = 0 ∨ y2 = 1) ∧ X mX10_findMade 2 [(0, vR 265), (1, vI (w32 (x1 + 1)))] [] sh (ν) (up μ q0 (Int.toNat y1) y2) 0 0 Q) :
    X mX10_findMade 29 [(0, vR 265), (1, vI x1)] [vI y2, vI y1, vR q0] sh ν μ 0 0 Q := by
  obtain ⟨c1, h⟩ := h
  obtain ⟨c2, h⟩ := h
  refine X.zastore (pc := 29) dX10_findMade_29 hq0 c1 c2 ?_
  refine X.iinc (pc := 30) (i := 1) (ls' := [(1, vI (w32 (x1 + 1))), (0, vR 265)]) 1 dX10_findMade_30 rfl (by decide) rfl ?_
  refine X.goto (pc := 33) (tgt := 2) dX10_findMade_33 (by decide) ?_
  exact X.pick [1, 0] rfl h

theorem g_X10_findMade_38 {sh : List (Nat × Nat)} {ν : Nat → Nat → Option Nat} {μ : Nat → Nat → Int} {f s : Nat} {Q : xQ} (hW : WF sh ν f s) {x1 : Int}
    (h : ((8 ≤ x1 → X mX10_findMade 113 [(0, vR 265), (1, vI 0)] [] sh (ν) (μ) 0 0 Q) ∧ (x1 < 8 → X mX10_findMade 46 [(0, vR 265), (1, vI x1), (2, vI 0)] [] sh (ν) (μ) 0 0 Q))) :
    X mX10_findMade 38 [(0, vR 265), (1, vI x1)] [] sh ν μ 0 0 Q := by
  refine X.iload_n (pc := 38) (i := 1) 1 dX10_findMade_38 rfl rfl ?_
  refine X.bipush (pc := 39) (y := 8) dX10_findMade_39 rfl ⟨by decide, by decide⟩ ?_
  refine X.icmp_ge (pc := 41) 111 dX10_findMade_41 (by decide) ⟨fun q9 => ?_, fun q9 => ?_⟩
  · have h := h.1 q9
    refine X.iconst (pc := 111) dX10_findMade_111 ⟨by decide, by decide⟩ ?_
    refine X.istore_n (pc := 112) (i := 1) (ls' := [(1, vI 0), (0, vR 265)]) dX10_findMade_112 rfl (by decide) rfl ?_
    exact X.pick [1, 0] rfl h
  · have h := h.2 q9
    refine X.iconst (pc := 44) dX10_findMade_44 ⟨by decide, by decide⟩ ?_
    refine X.istore_n (pc := 45) (i := 2) (ls' := [(2, vI 0), (0, vR 265), (1, vI x1)]) dX10_findMade_45 rfl (by decide) rfl ?_
    exact X.pick [1, 2, 0] rfl h

theorem g_X10_findMade_46 {sh : List (Nat × Nat)} {ν : Nat → Nat → Option Nat} {μ : Nat → Nat → Int} {f s : Nat} {Q : xQ} (hW : WF sh ν f s) {x1 : Int} {x2 : Int}
    (h : ((64 ≤ x2 → X mX10_findMade 38 [(0, vR 265), (1, vI (w32 (x1 + 1)))] [] sh (ν) (μ) 0 0 Q) ∧ (x2 < 64 → (0 ≤ (w32 (Int.tdiv x2 8)) ∧ (w32 (Int.tdiv x2 8)) < (8 : Nat)) ∧ ((((μ) 299 (Int.toNat (w32 (Int.tdiv x2 8)))) ≠ 0 → X mX10_findMade 93 [(0, vR 265), (1, vI x1), (2, vI x2)] [vI (w32 (Int.tdiv x2 8)), vR 299] sh (ν) (μ) 0 0 Q) ∧ (((μ) 299 (Int.toNat (w32 (Int.tdiv x2 8)))) = 0 → (0 ≤ x2 ∧ x2 < (64 : Nat)) ∧ ((((μ) 298 (Int.toNat x2)) ≤ 0 → X mX10_findMade 97 [(0, vR 265), (1, vI x1), (2, vI x2)] [vI (w32 (Int.tdiv x2 8)), vR 299] sh (ν) (μ) 0 0 Q) ∧ (0 < ((μ) 298 (Int.toNat x2)) → (0 ≤ (w32 (Int.tmod x2 8)) ∧ (w32 (Int.tmod x2 8)) < (8 : Nat)) ∧ ((((μ) 299 (Int.toNat (w32 (Int.tmod x2 8)))) = 0 → X mX10_findMade 97 [(0, vR 265), (1, vI x1), (2, vI x2)] [vI (w32 (Int.tdiv x2 8)), vR 299] sh (ν) (μ) 0 0 Q) ∧ (((μ) 299 (Int.toNat (w32 (Int.tmod x2 8)))) ≠ 0 → X mX10_findMade 93 [(0, vR 265), (1, vI x1), (2, vI x2)] [vI (w32 (Int.tdiv x2 8)), vR 299] sh (ν) (μ) 0 0 Q))))))))) :
    X mX10_findMade 46 [(0, vR 265), (1, vI x1), (2, vI x2)] [] sh ν μ 0 0 Q := by
  refine X.iload_n (pc := 46) (i := 2) 2 dX10_findMade_46 rfl rfl ?_
  refine X.bipush (pc := 47) (y := 64) dX10_findMade_47 rfl ⟨by decide, by decide⟩ ?_
  refine X.icmp_ge (pc := 49) 105 dX10_findMade_49 (by decide) ⟨fun q9 => ?_, fun q9 => ?_⟩
  · have h := h.1 q9
    refine X.iinc (pc := 105) (i := 1) (ls' := [(1, vI (w32 (x1 + 1))), (0, vR 265), (2, vI x2)]) 1 dX10_findMade_105 rfl (by decide) rfl ?_
    refine X.goto (pc := 108) (tgt := 38) dX10_findMade_108 (by decide) ?_
    exact X.pick [1, 0] rfl h
  · have h := h.2 q9
    refine X.aload_n (pc := 52) (i := 0) 0 dX10_findMade_52 rfl rfl ?_
    refine X.getR (pc := 53) (b := 299) dX10_findMade_53 fl_X10_112 rfl (fs_X10 hW) (fp_X10_45 hW) ?_
    refine X.iload_n (pc := 56) (i := 2) 2 dX10_findMade_56 rfl rfl ?_
    refine X.bipush (pc := 57) (y := 8) dX10_findMade_57 rfl ⟨by decide, by decide⟩ ?_
    refine X.idiv (pc := 59) dX10_findMade_59 (by decide) ?_
    refine X.aload_n (pc := 60) (i := 0) 0 dX10_findMade_60 rfl rfl ?_
    refine X.getR (pc := 61) (b := 299) dX10_findMade_61 fl_X10_112 rfl (fs_X10 hW) (fp_X10_45 hW) ?_
    refine X.iload_n (pc := 64) (i := 2) 2 dX10_findMade_64 rfl rfl ?_
    refine X.bipush (pc := 65) (y := 8) dX10_findMade_65 rfl ⟨by decide, by decide⟩ ?_
    refine X.idiv (pc := 67) dX10_findMade_67 (by decide) ?_
    obtain ⟨c1, h⟩ := h
    refine X.zaload (pc := 68) dX10_findMade_68 (fa_X10_45 hW) c1 ?_
    refine X.if_ne (pc := 69) 93 dX10_findMade_69 (by decide) ⟨fun q9 => ?_, fun q9 => ?_⟩
    · have h := h.1 q9
      exact h
    · have h := h.2 q9
      refine X.aload_n (pc := 72) (i := 0) 0 dX10_findMade_72 rfl rfl ?_
      refine X.getR (pc := 73) (b := 298) dX10_findMade_73 fl_X10_109 rfl (fs_X10 hW) (fp_X10_44 hW) ?_
      refine X.iload_n (pc := 76) (i := 2) 2 dX10_findMade_76 rfl rfl ?_
      obtain ⟨c2, h⟩ := h
      refine X.iaload (pc := 77) dX10_findMade_77 (fa_X10_44 hW) c2 ?_
      refine X.if_le (pc := 78) 97 dX10_findMade_78 (by decide) ⟨fun q9 => ?_, fun q9 => ?_⟩
      · have h := h.1 q9
        exact h
      · have h := h.2 q9
        refine X.aload_n (pc := 81) (i := 0) 0 dX10_findMade_81 rfl rfl ?_
        refine X.getR (pc := 82) (b := 299) dX10_findMade_82 fl_X10_112 rfl (fs_X10 hW) (fp_X10_45 hW) ?_
        refine X.iload_n (pc := 85) (i := 2) 2 dX10_findMade_85 rfl rfl ?_
        refine X.bipush (pc := 86) (y := 8) dX10_findMade_86 rfl ⟨by decide, by decide⟩ ?_
        refine X.irem (pc := 88) dX10_findMade_88 (by decide) ?_
        obtain ⟨c3, h⟩ := h
        refine X.zaload (pc := 89) dX10_findMade_89 (fa_X10_45 hW) c3 ?_
        refine X.if_eq (pc := 90) 97 dX10_findMade_90 (by decide) ⟨fun q9 => ?_, fun q9 => ?_⟩
        · have h := h.1 q9
          exact h
        · have h := h.2 q9
          exact h

theorem g_X10_findMade_93 {sh : List (Nat × Nat)} {ν : Nat → Nat → Option Nat} {μ : Nat → Nat → Int} {f s : Nat} {Q : xQ} (hW : WF sh ν f s) {x1 : Int} {x2 : Int} {q0 nq0 : Nat} (hq0 : sh[q0]? = some (3, nq0)) {y1 : Int}
    (h : X mX10_findMade 98 [(0, vR 265), (1, vI x1), (2, vI x2)] [vI 1, vI y1, vR q0] sh (ν) (μ) 0 0 Q) :
    X mX10_findMade 93 [(0, vR 265), (1, vI x1), (2, vI x2)] [vI y1, vR q0] sh ν μ 0 0 Q := by
  refine X.iconst (pc := 93) dX10_findMade_93 ⟨by decide, by decide⟩ ?_
  refine X.goto (pc := 94) (tgt := 98) dX10_findMade_94 (by decide) ?_
  exact h

theorem g_X10_findMade_97 {sh : List (Nat × Nat)} {ν : Nat → Nat → Option Nat} {μ : Nat → Nat → Int} {f s : Nat} {Q : xQ} (hW : WF sh ν f s) {x1 : Int} {x2 : Int} {q0 nq0 : Nat} (hq0 : sh[q0]? = some (3, nq0)) {y1 : Int}
    (h : X mX10_findMade 98 [(0, vR 265), (1, vI x1), (2, vI x2)] [vI 0, vI y1, vR q0] sh (ν) (μ) 0 0 Q) :
    X mX10_findMade 97 [(0, vR 265), (1, vI x1), (2, vI x2)] [vI y1, vR q0] sh ν μ 0 0 Q := by
  refine X.iconst (pc := 97) dX10_findMade_97 ⟨by decide, by decide⟩ ?_
  exact h

theorem g_X10_findMade_98 {sh : List (Nat × Nat)} {ν : Nat → Nat → Option Nat} {μ : Nat → Nat → Int} {f s : Nat} {Q : xQ} (hW : WF sh ν f s) {x1 : Int} {x2 : Int} {q0 nq0 : Nat} (hq0 : sh[q0]? = some (3, nq0)) {y1 : Int} {y2 : Int}
    (h : (0 ≤ y1 ∧ y1 < (nq0 : Nat)) ∧ (y2 = 0 ∨ y2 = 1) ∧ X mX10_findMade 46 [(0, vR 265), (1, vI x1), (2, vI (w32 (x2 + 1)))] [] sh (ν) (up μ q0 (Int.toNat y1) y2) 0 0 Q) :
    X mX10_findMade 98 [(0, vR 265), (1, vI x1), (2, vI x2)] [vI y2, vI y1, vR q0] sh ν μ 0 0 Q := by
  obtain ⟨c1, h⟩ := h
  obtain ⟨c2, h⟩ := h
  refine X.zastore (pc := 98) dX10_findMade_98 hq0 c1 c2 ?_
  refine X.iinc (pc := 99) (i := 2) (ls' := [(2, vI (w32 (x2 + 1))), (0, vR 265), (1, vI x1)]) 2 dX10_findMade_99 rfl (by decide) rfl ?_
  refine X.goto (pc := 102) (tgt := 46) dX10_findMade_102 (by decide) ?_
  exact X.pick [1, 2, 0] rfl h

theorem g_X10_findMade_113 {sh : List (Nat × Nat)} {ν : Nat → Nat → Option Nat} {μ : Nat → Nat → Int} {f s : Nat} {Q : xQ} (hW : WF sh ν f s) {x1 : Int}
    (h : ((64 ≤ x1 → X mX10_findMade 171 [(0, vR 265), (1, vI 0)] [] sh (ν) (μ) 0 0 Q) ∧ (x1 < 64 → (0 ≤ x1 ∧ x1 < (64 : Nat)) ∧ ((((μ) 298 (Int.toNat x1)) ≤ 0 → X mX10_findMade 161 [(0, vR 265), (1, vI x1)] [vI x1, vR 300] sh (ν) (μ) 0 0 Q) ∧ (0 < ((μ) 298 (Int.toNat x1)) → (0 ≤ (w32 (Int.tdiv x1 8)) ∧ (w32 (Int.tdiv x1 8)) < (8 : Nat)) ∧ ((((μ) 299 (Int.toNat (w32 (Int.tdiv x1 8)))) = 0 → X mX10_findMade 161 [(0, vR 265), (1, vI x1)] [vI x1, vR 300] sh (ν) (μ) 0 0 Q) ∧ (((μ) 299 (Int.toNat (w32 (Int.tdiv x1 8)))) ≠ 0 → (0 ≤ (w32 (Int.tmod x1 8)) ∧ (w32 (Int.tmod x1 8)) < (8 : Nat)) ∧ ((((μ) 299 (Int.toNat (w32 (Int.tmod x1 8)))) = 0 → X mX10_findMade 161 [(0, vR 265), (1, vI x1)] [vI x1, vR 300] sh (ν) (μ) 0 0 Q) ∧ (((μ) 299 (Int.toNat (w32 (Int.tmod x1 8)))) ≠ 0 → X mX10_findMade 162 [(0, vR 265), (1, vI x1)] [vI 1, vI x1, vR 300] sh (ν) (μ) 0 0 Q))))))))) :
    X mX10_findMade 113 [(0, vR 265), (1, vI x1)] [] sh ν μ 0 0 Q := by
  refine X.iload_n (pc := 113) (i := 1) 1 dX10_findMade_113 rfl rfl ?_
  refine X.bipush (pc := 114) (y := 64) dX10_findMade_114 rfl ⟨by decide, by decide⟩ ?_
  refine X.icmp_ge (pc := 116) 169 dX10_findMade_116 (by decide) ⟨fun q9 => ?_, fun q9 => ?_⟩
  · have h := h.1 q9
    refine X.iconst (pc := 169) dX10_findMade_169 ⟨by decide, by decide⟩ ?_
    refine X.istore_n (pc := 170) (i := 1) (ls' := [(1, vI 0), (0, vR 265)]) dX10_findMade_170 rfl (by decide) rfl ?_
    exact X.pick [1, 0] rfl h
  · have h := h.2 q9
    refine X.aload_n (pc := 119) (i := 0) 0 dX10_findMade_119 rfl rfl ?_
    refine X.getR (pc := 120) (b := 300) dX10_findMade_120 fl_X10_115 rfl (fs_X10 hW) (fp_X10_46 hW) ?_
    refine X.iload_n (pc := 123) (i := 1) 1 dX10_findMade_123 rfl rfl ?_
    refine X.aload_n (pc := 124) (i := 0) 0 dX10_findMade_124 rfl rfl ?_
    refine X.getR (pc := 125) (b := 298) dX10_findMade_125 fl_X10_109 rfl (fs_X10 hW) (fp_X10_44 hW) ?_
    refine X.iload_n (pc := 128) (i := 1) 1 dX10_findMade_128 rfl rfl ?_
    obtain ⟨c1, h⟩ := h
    refine X.iaload (pc := 129) dX10_findMade_129 (fa_X10_44 hW) c1 ?_
    refine X.if_le (pc := 130) 161 dX10_findMade_130 (by decide) ⟨fun q9 => ?_, fun q9 => ?_⟩
    · have h := h.1 q9
      exact h
    · have h := h.2 q9
      refine X.aload_n (pc := 133) (i := 0) 0 dX10_findMade_133 rfl rfl ?_
      refine X.getR (pc := 134) (b := 299) dX10_findMade_134 fl_X10_112 rfl (fs_X10 hW) (fp_X10_45 hW) ?_
      refine X.iload_n (pc := 137) (i := 1) 1 dX10_findMade_137 rfl rfl ?_
      refine X.bipush (pc := 138) (y := 8) dX10_findMade_138 rfl ⟨by decide, by decide⟩ ?_
      refine X.idiv (pc := 140) dX10_findMade_140 (by decide) ?_
      obtain ⟨c2, h⟩ := h
      refine X.zaload (pc := 141) dX10_findMade_141 (fa_X10_45 hW) c2 ?_
      refine X.if_eq (pc := 142) 161 dX10_findMade_142 (by decide) ⟨fun q9 => ?_, fun q9 => ?_⟩
      · have h := h.1 q9
        exact h
      · have h := h.2 q9
        refine X.aload_n (pc := 145) (i := 0) 0 dX10_findMade_145 rfl rfl ?_
        refine X.getR (pc := 146) (b := 299) dX10_findMade_146 fl_X10_112 rfl (fs_X10 hW) (fp_X10_45 hW) ?_
        refine X.iload_n (pc := 149) (i := 1) 1 dX10_findMade_149 rfl rfl ?_
        refine X.bipush (pc := 150) (y := 8) dX10_findMade_150 rfl ⟨by decide, by decide⟩ ?_
        refine X.irem (pc := 152) dX10_findMade_152 (by decide) ?_
        obtain ⟨c3, h⟩ := h
        refine X.zaload (pc := 153) dX10_findMade_153 (fa_X10_45 hW) c3 ?_
        refine X.if_eq (pc := 154) 161 dX10_findMade_154 (by decide) ⟨fun q9 => ?_, fun q9 => ?_⟩
        · have h := h.1 q9
          exact h
        · have h := h.2 q9
          refine X.iconst (pc := 157) dX10_findMade_157 ⟨by decide, by decide⟩ ?_
          refine X.goto (pc := 158) (tgt := 162) dX10_findMade_158 (by decide) ?_
          exact h

theorem g_X10_findMade_161 {sh : List (Nat × Nat)} {ν : Nat → Nat → Option Nat} {μ : Nat → Nat → Int} {f s : Nat} {Q : xQ} (hW : WF sh ν f s) {x1 : Int} {q0 nq0 : Nat} (hq0 : sh[q0]? = some (3, nq0)) {y1 : Int}
    (h : X mX10_findMade 162 [(0, vR 265), (1, vI x1)] [vI 0, vI y1, vR q0] sh (ν) (μ) 0 0 Q) :
    X mX10_findMade 161 [(0, vR 265), (1, vI x1)] [vI y1, vR q0] sh ν μ 0 0 Q := by
  refine X.iconst (pc := 161) dX10_findMade_161 ⟨by decide, by decide⟩ ?_
  exact h

theorem g_X10_findMade_162 {sh : List (Nat × Nat)} {ν : Nat → Nat → Option Nat} {μ : Nat → Nat → Int} {f s : Nat} {Q : xQ} (hW : WF sh ν f s) {x1 : Int} {q0 nq0 : Nat} (hq0 : sh[q0]? = some (3, nq0)) {y1 : Int} {y2 : Int}
    (h : (0 ≤ y1 ∧ y1 < (nq0 : Nat)) ∧ (y2 = 0 ∨ y2 = 1) ∧ X mX10_findMade 113 [(0, vR 265), (1, vI (w32 (x1 + 1)))] [] sh (ν) (up μ q0 (Int.toNat y1) y2) 0 0 Q) :
    X mX10_findMade 162 [(0, vR 265), (1, vI x1)] [vI y2, vI y1, vR q0] sh ν μ 0 0 Q := by
  obtain ⟨c1, h⟩ := h
  obtain ⟨c2, h⟩ := h
  refine X.zastore (pc := 162) dX10_findMade_162 hq0 c1 c2 ?_
  refine X.iinc (pc := 163) (i := 1) (ls' := [(1, vI (w32 (x1 + 1))), (0, vR 265)]) 1 dX10_findMade_163 rfl (by decide) rfl ?_
  refine X.goto (pc := 166) (tgt := 113) dX10_findMade_166 (by decide) ?_
  exact X.pick [1, 0] rfl h

theorem g_X10_findMade_171 {sh : List (Nat × Nat)} {ν : Nat → Nat → Option Nat} {μ : Nat → Nat → Int} {f s : Nat} {Q : xQ} (hW : WF sh ν f s) {x1 : Int}
    (h : ((8 ≤ x1 → Q none sh (ν) (μ)) ∧ (x1 < 8 → X mX10_findMade 179 [(0, vR 265), (1, vI x1), (2, vI 0)] [] sh (ν) (μ) 0 0 Q))) :
    X mX10_findMade 171 [(0, vR 265), (1, vI x1)] [] sh ν μ 0 0 Q := by
  refine X.iload_n (pc := 171) (i := 1) 1 dX10_findMade_171 rfl rfl ?_
  refine X.bipush (pc := 172) (y := 8) dX10_findMade_172 rfl ⟨by decide, by decide⟩ ?_
  refine X.icmp_ge (pc := 174) 251 dX10_findMade_174 (by decide) ⟨fun q9 => ?_, fun q9 => ?_⟩
  · have h := h.1 q9
    exact X.vret (pc := 251) dX10_findMade_251 rfl (Nat.le_of_ble_eq_true rfl) (Nat.le_of_ble_eq_true rfl) h
  · have h := h.2 q9
    refine X.iconst (pc := 177) dX10_findMade_177 ⟨by decide, by decide⟩ ?_
    refine X.istore_n (pc := 178) (i := 2) (ls' := [(2, vI 0), (0, vR 265), (1, vI x1)]) dX10_findMade_178 rfl (by decide) rfl ?_
    exact X.pick [1, 2, 0] rfl h

theorem g_X10_findMade_179 {sh : List (Nat × Nat)} {ν : Nat → Nat → Option Nat} {μ : Nat → Nat → Int} {f s : Nat} {Q : xQ} (hW : WF sh ν f s) {x1 : Int} {x2 : Int}
    (h : ((64 ≤ x2 → X mX10_findMade 171 [(0, vR 265), (1, vI (w32 (x1 + 1)))] [] sh (ν) (μ) 0 0 Q) ∧ (x2 < 64 → (0 ≤ x2 ∧ x2 < (64 : Nat)) ∧ ((((μ) 300 (Int.toNat x2)) ≠ 0 → X mX10_findMade 233 [(0, vR 265), (1, vI x1), (2, vI x2)] [vI x2, vR 300] sh (ν) (μ) 0 0 Q) ∧ (((μ) 300 (Int.toNat x2)) = 0 → (0 ≤ (w32 ((w32 ((w32 (Int.tdiv x2 8)) * 8)) + x1)) ∧ (w32 ((w32 ((w32 (Int.tdiv x2 8)) * 8)) + x1)) < (64 : Nat)) ∧ ((((μ) 300 (Int.toNat (w32 ((w32 ((w32 (Int.tdiv x2 8)) * 8)) + x1)))) = 0 → X mX10_findMade 237 [(0, vR 265), (1, vI x1), (2, vI x2)] [vI x2, vR 300] sh (ν) (μ) 0 0 Q) ∧ (((μ) 300 (Int.toNat (w32 ((w32 ((w32 (Int.tdiv x2 8)) * 8)) + x1)))) ≠ 0 → (0 ≤ (w32 ((w32 (8 * x1)) + (w32 (Int.tmod x2 8)))) ∧ (w32 ((w32 (8 * x1)) + (w32 (Int.tmod x2 8)))) < (64 : Nat)) ∧ ((((μ) 300 (Int.toNat (w32 ((w32 (8 * x1)) + (w32 (Int.tmod x2 8)))))) = 0 → X mX10_findMade 237 [(0, vR 265), (1, vI x1), (2, vI x2)] [vI x2, vR 300] sh (ν) (μ) 0 0 Q) ∧ (((μ) 300 (Int.toNat (w32 ((w32 (8 * x1)) + (w32 (Int.tmod x2 8)))))) ≠ 0 → X mX10_findMade 233 [(0, vR 265), (1, vI x1), (2, vI x2)] [vI x2, vR 300] sh (ν) (μ) 0 0 Q))))))))) :
    X mX10_findMade 179 [(0, vR 265), (1, vI x1), (2, vI x2)] [] sh ν μ 0 0 Q := by
  refine X.iload_n (pc := 179) (i := 2) 2 dX10_findMade_179 rfl rfl ?_
  refine X.bipush (pc := 180) (y := 64) dX10_findMade_180 rfl ⟨by decide, by decide⟩ ?_
  refine X.icmp_ge (pc := 182) 245 dX10_findMade_182 (by decide) ⟨fun q9 => ?_, fun q9 => ?_⟩
  · have h := h.1 q9
    refine X.iinc (pc := 245) (i := 1) (ls' := [(1, vI (w32 (x1 + 1))), (0, vR 265), (2, vI x2)]) 1 dX10_findMade_245 rfl (by decide) rfl ?_
    refine X.goto (pc := 248) (tgt := 171) dX10_findMade_248 (by decide) ?_
    exact X.pick [1, 0] rfl h
  · have h := h.2 q9
    refine X.aload_n (pc := 185) (i := 0) 0 dX10_findMade_185 rfl rfl ?_
    refine X.getR (pc := 186) (b := 300) dX10_findMade_186 fl_X10_115 rfl (fs_X10 hW) (fp_X10_46 hW) ?_
    refine X.iload_n (pc := 189) (i := 2) 2 dX10_findMade_189 rfl rfl ?_
    refine X.aload_n (pc := 190) (i := 0) 0 dX10_findMade_190 rfl rfl ?_
    refine X.getR (pc := 191) (b := 300) dX10_findMade_191 fl_X10_115 rfl (fs_X10 hW) (fp_X10_46 hW) ?_
    refine X.iload_n (pc := 194) (i := 2) 2 dX10_findMade_194 rfl rfl ?_
    obtain ⟨c1, h⟩ := h
    refine X.zaload (pc := 195) dX10_findMade_195 (fa_X10_46 hW) c1 ?_
    refine X.if_ne (pc := 196) 233 dX10_findMade_196 (by decide) ⟨fun q9 => ?_, fun q9 => ?_⟩
    · have h := h.1 q9
      exact h
    · have h := h.2 q9
      refine X.aload_n (pc := 199) (i := 0) 0 dX10_findMade_199 rfl rfl ?_
      refine X.getR (pc := 200) (b := 300) dX10_findMade_200 fl_X10_115 rfl (fs_X10 hW) (fp_X10_46 hW) ?_
      refine X.iload_n (pc := 203) (i := 2) 2 dX10_findMade_203 rfl rfl ?_
      refine X.bipush (pc := 204) (y := 8) dX10_findMade_204 rfl ⟨by decide, by decide⟩ ?_
      refine X.idiv (pc := 206) dX10_findMade_206 (by decide) ?_
      refine X.bipush (pc := 207) (y := 8) dX10_findMade_207 rfl ⟨by decide, by decide⟩ ?_
      refine X.imul (pc := 209) dX10_findMade_209 ?_
      refine X.iload_n (pc := 210) (i := 1) 1 dX10_findMade_210 rfl rfl ?_
      refine X.iadd (pc := 211) dX10_findMade_211 ?_
      obtain ⟨c2, h⟩ := h
      refine X.zaload (pc := 212) dX10_findMade_212 (fa_X10_46 hW) c2 ?_
      refine X.if_eq (pc := 213) 237 dX10_findMade_213 (by decide) ⟨fun q9 => ?_, fun q9 => ?_⟩
      · have h := h.1 q9
        exact h
      · have h := h.2 q9
        refine X.aload_n (pc := 216) (i := 0) 0 dX10_findMade_216 rfl rfl ?_
        refine X.getR (pc := 217) (b := 300) dX10_findMade_217 fl_X10_115 rfl (fs_X10 hW) (fp_X10_46 hW) ?_
        refine X.bipush (pc := 220) (y := 8) dX10_findMade_220 rfl ⟨by decide, by decide⟩ ?_
        refine X.iload_n (pc := 222) (i := 1) 1 dX10_findMade_222 rfl rfl ?_
        refine X.imul (pc := 223) dX10_findMade_223 ?_
        refine X.iload_n (pc := 224) (i := 2) 2 dX10_findMade_224 rfl rfl ?_
        refine X.bipush (pc := 225) (y := 8) dX10_findMade_225 rfl ⟨by decide, by decide⟩ ?_
        refine X.irem (pc := 227) dX10_findMade_227 (by decide) ?_
        refine X.iadd (pc := 228) dX10_findMade_228 ?_
        obtain ⟨c3, h⟩ := h
        refine X.zaload (pc := 229) dX10_findMade_229 (fa_X10_46 hW) c3 ?_
        refine X.if_eq (pc := 230) 237 dX10_findMade_230 (by decide) ⟨fun q9 => ?_, fun q9 => ?_⟩
        · have h := h.1 q9
          exact h
        · have h := h.2 q9
          exact h

theorem g_X10_findMade_233 {sh : List (Nat × Nat)} {ν : Nat → Nat → Option Nat} {μ : Nat → Nat → Int} {f s : Nat} {Q : xQ} (hW : WF sh ν f s) {x1 : Int} {x2 : Int} {q0 nq0 : Nat} (hq0 : sh[q0]? = some (3, nq0)) {y1 : Int}
    (h : X mX10_findMade 238 [(0, vR 265), (1, vI x1), (2, vI x2)] [vI 1, vI y1, vR q0] sh (ν) (μ) 0 0 Q) :
    X mX10_findMade 233 [(0, vR 265), (1, vI x1), (2, vI x2)] [vI y1, vR q0] sh ν μ 0 0 Q := by
  refine X.iconst (pc := 233) dX10_findMade_233 ⟨by decide, by decide⟩ ?_
  refine X.goto (pc := 234) (tgt := 238) dX10_findMade_234 (by decide) ?_
  exact h

theorem g_X10_findMade_237 {sh : List (Nat × Nat)} {ν : Nat → Nat → Option Nat} {μ : Nat → Nat → Int} {f s : Nat} {Q : xQ} (hW : WF sh ν f s) {x1 : Int} {x2 : Int} {q0 nq0 : Nat} (hq0 : sh[q0]? = some (3, nq0)) {y1 : Int}
    (h : X mX10_findMade 238 [(0, vR 265), (1, vI x1), (2, vI x2)] [vI 0, vI y1, vR q0] sh (ν) (μ) 0 0 Q) :
    X mX10_findMade 237 [(0, vR 265), (1, vI x1), (2, vI x2)] [vI y1, vR q0] sh ν μ 0 0 Q := by
  refine X.iconst (pc := 237) dX10_findMade_237 ⟨by decide, by decide⟩ ?_
  exact h

theorem g_X10_findMade_238 {sh : List (Nat × Nat)} {ν : Nat → Nat → Option Nat} {μ : Nat → Nat → Int} {f s : Nat} {Q : xQ} (hW : WF sh ν f s) {x1 : Int} {x2 : Int} {q0 nq0 : Nat} (hq0 : sh[q0]? = some (3, nq0)) {y1 : Int} {y2 : Int}
    (h : (0 ≤ y1 ∧ y1 < (nq0 : Nat)) ∧ (y2 = 0 ∨ y2 = 1) ∧ X mX10_findMade 179 [(0, vR 265), (1, vI x1), (2, vI (w32 (x2 + 1)))] [] sh (ν) (up μ q0 (Int.toNat y1) y2) 0 0 Q) :
    X mX10_findMade 238 [(0, vR 265), (1, vI x1), (2, vI x2)] [vI y2, vI y1, vR q0] sh ν μ 0 0 Q := by
  obtain ⟨c1, h⟩ := h
  obtain ⟨c2, h⟩ := h
  refine X.zastore (pc := 238) dX10_findMade_238 hq0 c1 c2 ?_
  refine X.iinc (pc := 239) (i := 2) (ls' := [(2, vI (w32 (x2 + 1))), (0, vR 265), (1, vI x1)]) 2 dX10_findMade_239 rfl (by decide) rfl ?_
  refine X.goto (pc := 242) (tgt := 179) dX10_findMade_242 (by decide) ?_
  exact X.pick [1, 2, 0] rfl h

theorem g_X10_isEndless_0 {sh : List (Nat × Nat)} {ν : Nat → Nat → Option Nat} {μ : Nat → Nat → Int} {f s : Nat} {Q : xQ} (hW : WF sh ν f s) {x1 : Int}
    (h : (0 ≤ x1 ∧ x1 < (8 : Nat)) ∧ ((((μ) 297 (Int.toNat x1)) < 0 → X mX10_isEndless 23 [(0, vR 265), (1, vI x1)] [] sh (ν) (μ) 0 0 Q) ∧ (0 ≤ ((μ) 297 (Int.toNat x1)) → (0 ≤ (w32 (9 * x1)) ∧ (w32 (9 * x1)) < (64 : Nat)) ∧ ((((μ) 300 (Int.toNat (w32 (9 * x1)))) = 0 → X mX10_isEndless 28 [(0, vR 265), (1, vI x1)] [vI 0] sh (ν) (μ) 0 0 Q) ∧ (((μ) 300 (Int.toNat (w32 (9 * x1)))) ≠ 0 → X mX10_isEndless 23 [(0, vR 265), (1, vI x1)] [] sh (ν) (μ) 0 0 Q))))) :
    X mX10_isEndless 0 [(0, vR 265), (1, vI x1)] [] sh ν μ 0 0 Q := by
  refine X.aload_n (pc := 0) (i := 0) 0 dX10_isEndless_0 rfl rfl ?_
  refine X.getR (pc := 1) (b := 297) dX10_isEndless_1 fl_X10_106 rfl (fs_X10 hW) (fp_X10_43 hW) ?_
  refine X.iload_n (pc := 4) (i := 1) 1 dX10_isEndless_4 rfl rfl ?_
  obtain ⟨c1, h⟩ := h
  refine X.laload (pc := 5) dX10_isEndless_5 (fa_X10_43 hW) c1 ?_
  refine X.lconst (pc := 6) (y := 0) dX10_isEndless_6 rfl ⟨by decide, by decide⟩ ?_
  refine X.lcmp (pc := 7) dX10_isEndless_7 ?_
  refine X.if_lt (pc := 8) 23 dX10_isEndless_8 (by decide) ⟨fun q9 => ?_, fun q9 => ?_⟩
  · have h := h.1 (xl_lt.mp q9)
    exact h
  · have h := h.2 (xl_ge.mp q9)
    refine X.aload_n (pc := 11) (i := 0) 0 dX10_isEndless_11 rfl rfl ?_
    refine X.getR (pc := 12) (b := 300) dX10_isEndless_12 fl_X10_115 rfl (fs_X10 hW) (fp_X10_46 hW) ?_
    refine X.bipush (pc := 15) (y := 9) dX10_isEndless_15 rfl ⟨by decide, by decide⟩ ?_
    refine X.iload_n (pc := 17) (i := 1) 1 dX10_isEndless_17 rfl rfl ?_
    refine X.imul (pc := 18) dX10_isEndless_18 ?_
    obtain ⟨c2, h⟩ := h
    refine X.zaload (pc := 19) dX10_isEndless_19 (fa_X10_46 hW) c2 ?_
    refine X.if_eq (pc := 20) 27 dX10_isEndless_20 (by decide) ⟨fun q9 => ?_, fun q9 => ?_⟩
    · have h := h.1 q9
      refine X.iconst (pc := 27) dX10_isEndless_27 ⟨by decide, by decide⟩ ?_
      exact h
    · have h := h.2 q9
      exact h

theorem g_X10_isEndless_23 {sh : List (Nat × Nat)} {ν : Nat → Nat → Option Nat} {μ : Nat → Nat → Int} {f s : Nat} {Q : xQ} (hW : WF sh ν f s) {x1 : Int}
    (h : X mX10_isEndless 28 [(0, vR 265), (1, vI x1)] [vI 1] sh (ν) (μ) 0 0 Q) :
    X mX10_isEndless 23 [(0, vR 265), (1, vI x1)] [] sh ν μ 0 0 Q := by
  refine X.iconst (pc := 23) dX10_isEndless_23 ⟨by decide, by decide⟩ ?_
  refine X.goto (pc := 24) (tgt := 28) dX10_isEndless_24 (by decide) ?_
  exact h

theorem g_X10_isEndless_28 {sh : List (Nat × Nat)} {ν : Nat → Nat → Option Nat} {μ : Nat → Nat → Int} {f s : Nat} {Q : xQ} (hW : WF sh ν f s) {x1 : Int} {y0 : Int}
    (h : X mX10_isEndless 31 [(0, vR 265), (1, vI x1), (2, vI y0), (3, vI 0)] [] sh (ν) (μ) 0 0 Q) :
    X mX10_isEndless 28 [(0, vR 265), (1, vI x1)] [vI y0] sh ν μ 0 0 Q := by
  refine X.istore_n (pc := 28) (i := 2) (ls' := [(2, vI y0), (0, vR 265), (1, vI x1)]) dX10_isEndless_28 rfl (by decide) rfl ?_
  refine X.iconst (pc := 29) dX10_isEndless_29 ⟨by decide, by decide⟩ ?_
  refine X.istore_n (pc := 30) (i := 3) (ls' := [(3, vI 0), (2, vI y0), (0, vR 265), (1, vI x1)]) dX10_isEndless_30 rfl (by decide) rfl ?_
  exact X.pick [2, 3, 1, 0] rfl h

theorem g_X10_isEndless_31 {sh : List (Nat × Nat)} {ν : Nat → Nat → Option Nat} {μ : Nat → Nat → Int} {f s : Nat} {Q : xQ} (hW : WF sh ν f s) {x1 : Int} {x2 : Int} {x3 : Int}
    (h : ((8 ≤ x3 → (x2 = 0 ∨ x2 = 1) ∧ Q (some (vI x2)) sh (ν) (μ)) ∧ (x3 < 8 → ((x2 ≠ 0 → X mX10_isEndless 78 [(0, vR 265), (1, vI x1), (3, vI x3)] [] sh (ν) (μ) 0 0 Q) ∧ (x2 = 0 → (0 ≤ (w32 ((w32 (8 * x1)) + x3)) ∧ (w32 ((w32 (8 * x1)) + x3)) < (64 : Nat)) ∧ ((((μ) 300 (Int.toNat (w32 ((w32 (8 * x1)) + x3)))) = 0 → X mX10_isEndless 82 [(0, vR 265), (1, vI x1), (3, vI x3)] [] sh (ν) (μ) 0 0 Q) ∧ (((μ) 300 (Int.toNat (w32 ((w32 (8 * x1)) + x3)))) ≠ 0 → (0 ≤ x3 ∧ x3 < (8 : Nat)) ∧ ((((μ) 297 (Int.toNat x3)) < 0 → X mX10_isEndless 78 [(0, vR 265), (1, vI x1), (3, vI x3)] [] sh (ν) (μ) 0 0 Q) ∧ (0 ≤ ((μ) 297 (Int.toNat x3)) → (0 ≤ (w32 (9 * x3)) ∧ (w32 (9 * x3)) < (64 : Nat)) ∧ ((((μ) 300 (Int.toNat (w32 (9 * x3)))) = 0 → X mX10_isEndless 82 [(0, vR 265), (1, vI x1), (3, vI x3)] [] sh (ν) (μ) 0 0 Q) ∧ (((μ) 300 (Int.toNat (w32 (9 * x3)))) ≠ 0 → X mX10_isEndless 78 [(0, vR 265), (1, vI x1), (3, vI x3)] [] sh (ν) (μ) 0 0 Q))))))))))) :
    X mX10_isEndless 31 [(0, vR 265), (1, vI x1), (2, vI x2), (3, vI x3)] [] sh ν μ 0 0 Q := by
  refine X.iload_n (pc := 31) (i := 3) 3 dX10_isEndless_31 rfl rfl ?_
  refine X.bipush (pc := 32) (y := 8) dX10_isEndless_32 rfl ⟨by decide, by decide⟩ ?_
  refine X.icmp_ge (pc := 34) 90 dX10_isEndless_34 (by decide) ⟨fun q9 => ?_, fun q9 => ?_⟩
  · have h := h.1 q9
    refine X.iload_n (pc := 90) (i := 2) 2 dX10_isEndless_90 rfl rfl ?_
    obtain ⟨c1, h⟩ := h
    exact X.zret (pc := 91) dX10_isEndless_91 rfl c1 (Nat.le_of_ble_eq_true rfl) (Nat.le_of_ble_eq_true rfl) h
  · have h := h.2 q9
    refine X.iload_n (pc := 37) (i := 2) 2 dX10_isEndless_37 rfl rfl ?_
    refine X.if_ne (pc := 38) 78 dX10_isEndless_38 (by decide) ⟨fun q9 => ?_, fun q9 => ?_⟩
    · have h := h.1 q9
      exact X.pick [0, 1, 3] rfl h
    · have h := h.2 q9
      refine X.aload_n (pc := 41) (i := 0) 0 dX10_isEndless_41 rfl rfl ?_
      refine X.getR (pc := 42) (b := 300) dX10_isEndless_42 fl_X10_115 rfl (fs_X10 hW) (fp_X10_46 hW) ?_
      refine X.bipush (pc := 45) (y := 8) dX10_isEndless_45 rfl ⟨by decide, by decide⟩ ?_
      refine X.iload_n (pc := 47) (i := 1) 1 dX10_isEndless_47 rfl rfl ?_
      refine X.imul (pc := 48) dX10_isEndless_48 ?_
      refine X.iload_n (pc := 49) (i := 3) 3 dX10_isEndless_49 rfl rfl ?_
      refine X.iadd (pc := 50) dX10_isEndless_50 ?_
      obtain ⟨c2, h⟩ := h
      refine X.zaload (pc := 51) dX10_isEndless_51 (fa_X10_46 hW) c2 ?_
      refine X.if_eq (pc := 52) 82 dX10_isEndless_52 (by decide) ⟨fun q9 => ?_, fun q9 => ?_⟩
      · have h := h.1 q9
        exact X.pick [0, 1, 3] rfl h
      · have h := h.2 q9
        refine X.aload_n (pc := 55) (i := 0) 0 dX10_isEndless_55 rfl rfl ?_
        refine X.getR (pc := 56) (b := 297) dX10_isEndless_56 fl_X10_106 rfl (fs_X10 hW) (fp_X10_43 hW) ?_
        refine X.iload_n (pc := 59) (i := 3) 3 dX10_isEndless_59 rfl rfl ?_
        obtain ⟨c3, h⟩ := h
        refine X.laload (pc := 60) dX10_isEndless_60 (fa_X10_43 hW) c3 ?_
        refine X.lconst (pc := 61) (y := 0) dX10_isEndless_61 rfl ⟨by decide, by decide⟩ ?_
        refine X.lcmp (pc := 62) dX10_isEndless_62 ?_
        refine X.if_lt (pc := 63) 78 dX10_isEndless_63 (by decide) ⟨fun q9 => ?_, fun q9 => ?_⟩
        · have h := h.1 (xl_lt.mp q9)
          exact X.pick [0, 1, 3] rfl h
        · have h := h.2 (xl_ge.mp q9)
          refine X.aload_n (pc := 66) (i := 0) 0 dX10_isEndless_66 rfl rfl ?_
          refine X.getR (pc := 67) (b := 300) dX10_isEndless_67 fl_X10_115 rfl (fs_X10 hW) (fp_X10_46 hW) ?_
          refine X.bipush (pc := 70) (y := 9) dX10_isEndless_70 rfl ⟨by decide, by decide⟩ ?_
          refine X.iload_n (pc := 72) (i := 3) 3 dX10_isEndless_72 rfl rfl ?_
          refine X.imul (pc := 73) dX10_isEndless_73 ?_
          obtain ⟨c4, h⟩ := h
          refine X.zaload (pc := 74) dX10_isEndless_74 (fa_X10_46 hW) c4 ?_
          refine X.if_eq (pc := 75) 82 dX10_isEndless_75 (by decide) ⟨fun q9 => ?_, fun q9 => ?_⟩
          · have h := h.1 q9
            exact X.pick [0, 1, 3] rfl h
          · have h := h.2 q9
            exact X.pick [0, 1, 3] rfl h

theorem g_X10_isEndless_78 {sh : List (Nat × Nat)} {ν : Nat → Nat → Option Nat} {μ : Nat → Nat → Int} {f s : Nat} {Q : xQ} (hW : WF sh ν f s) {x1 : Int} {x3 : Int}
    (h : X mX10_isEndless 83 [(0, vR 265), (1, vI x1), (3, vI x3)] [vI 1] sh (ν) (μ) 0 0 Q) :
    X mX10_isEndless 78 [(0, vR 265), (1, vI x1), (3, vI x3)] [] sh ν μ 0 0 Q := by
  refine X.iconst (pc := 78) dX10_isEndless_78 ⟨by decide, by decide⟩ ?_
  refine X.goto (pc := 79) (tgt := 83) dX10_isEndless_79 (by decide) ?_
  exact h

theorem g_X10_isEndless_82 {sh : List (Nat × Nat)} {ν : Nat → Nat → Option Nat} {μ : Nat → Nat → Int} {f s : Nat} {Q : xQ} (hW : WF sh ν f s) {x1 : Int} {x3 : Int}
    (h : X mX10_isEndless 83 [(0, vR 265), (1, vI x1), (3, vI x3)] [vI 0] sh (ν) (μ) 0 0 Q) :
    X mX10_isEndless 82 [(0, vR 265), (1, vI x1), (3, vI x3)] [] sh ν μ 0 0 Q := by
  refine X.iconst (pc := 82) dX10_isEndless_82 ⟨by decide, by decide⟩ ?_
  exact h

theorem g_X10_isEndless_83 {sh : List (Nat × Nat)} {ν : Nat → Nat → Option Nat} {μ : Nat → Nat → Int} {f s : Nat} {Q : xQ} (hW : WF sh ν f s) {x1 : Int} {x3 : Int} {y0 : Int}
    (h : X mX10_isEndless 31 [(0, vR 265), (1, vI x1), (2, vI y0), (3, vI (w32 (x3 + 1)))] [] sh (ν) (μ) 0 0 Q) :
    X mX10_isEndless 83 [(0, vR 265), (1, vI x1), (3, vI x3)] [vI y0] sh ν μ 0 0 Q := by
  refine X.istore_n (pc := 83) (i := 2) (ls' := [(2, vI y0), (0, vR 265), (1, vI x1), (3, vI x3)]) dX10_isEndless_83 rfl (by decide) rfl ?_
  refine X.iinc (pc := 84) (i := 3) (ls' := [(3, vI (w32 (x3 + 1))), (2, vI y0), (0, vR 265), (1, vI x1)]) 3 dX10_isEndless_84 rfl (by decide) rfl ?_
  refine X.goto (pc := 87) (tgt := 31) dX10_isEndless_87 (by decide) ?_
  exact X.pick [2, 3, 1, 0] rfl h

theorem g_X10_forget_0 {sh : List (Nat × Nat)} {ν : Nat → Nat → Option Nat} {μ : Nat → Nat → Int} {f s : Nat} {Q : xQ} (hW : WF sh ν f s) 
    (h : Q none sh (ν) (up (up μ 265 49 0) 265 50 0)) :
    X mX10_forget 0 [(0, vR 265)] [] sh ν μ 0 0 Q := by
  refine X.aload_n (pc := 0) (i := 0) 0 dX10_forget_0 rfl rfl ?_
  refine X.iconst (pc := 1) dX10_forget_1 ⟨by decide, by decide⟩ ?_
  refine X.putI (pc := 2) dX10_forget_2 fl_X10_276 rfl (fun h9 => by cases h9) (fs_X10 hW) (Or.inr (Or.inl rfl)) ?_
  refine X.aload_n (pc := 5) (i := 0) 0 dX10_forget_5 rfl rfl ?_
  refine X.iconst (pc := 6) dX10_forget_6 ⟨by decide, by decide⟩ ?_
  refine X.putI (pc := 7) dX10_forget_7 fl_X10_214 rfl (fun h9 => by cases h9) (fs_X10 hW) (Or.inr (Or.inl rfl)) ?_
  exact X.vret (pc := 10) dX10_forget_10 rfl (Nat.le_of_ble_eq_true rfl) (Nat.le_of_ble_eq_true rfl) h

theorem g_X10_count__0 {sh : List (Nat × Nat)} {ν : Nat → Nat → Option Nat} {μ : Nat → Nat → Int} {f s : Nat} {Q : xQ} (hW : WF sh ν f s) {x1 : Int}
    (h : ((x1 = 0 → Q (some (vI ((μ) 265 0))) sh (ν) (μ)) ∧ (x1 = 1 → Q (some (vI ((μ) 265 10))) sh (ν) (μ)) ∧ (x1 = 2 → Q (some (vI ((μ) 265 35))) sh (ν) (μ)) ∧ (x1 = 3 → Q (some (vI ((μ) 265 36))) sh (ν) (μ)) ∧ (x1 = 4 → Q (some (vI ((μ) 265 18))) sh (ν) (μ)) ∧ (x1 = 5 → Q (some (vI ((μ) 265 19))) sh (ν) (μ)) ∧ (x1 < 0 ∨ 5 < x1 → Q (some (vI (-2))) sh (ν) (μ)))) :
    X mX10_count_ 0 [(0, vR 265), (1, vI x1)] [] sh ν μ 0 0 Q := by
  refine X.iload_n (pc := 0) (i := 1) 1 dX10_count__0 rfl rfl ?_
  rcases Classical.em (0 ≤ x1 ∧ x1 ≤ 5) with q9 | q9
  · have q8 : x1 = 0 ∨ x1 = 1 ∨ x1 = 2 ∨ x1 = 3 ∨ x1 = 4 ∨ x1 = 5 := by omega
    rcases q8 with q8 | q8 | q8 | q8 | q8 | q8
    · have h := h.1 q8
      refine X.tsIn (pc := 1) (off := 39) 40 dX10_count__1 q9.1 q9.2 (by rw [q8]; rfl) (by decide) ?_
      refine X.aload_n (pc := 40) (i := 0) 0 dX10_count__40 rfl rfl ?_
      refine X.getI (pc := 41) dX10_count__41 fl_X10_128 rfl (fs_X10 hW) ?_
      exact X.iret (pc := 44) dX10_count__44 rfl (Nat.le_of_ble_eq_true rfl) (Nat.le_of_ble_eq_true rfl) h
    · have h := h.2.1 q8
      refine X.tsIn (pc := 1) (off := 44) 45 dX10_count__1 q9.1 q9.2 (by rw [q8]; rfl) (by decide) ?_
      refine X.aload_n (pc := 45) (i := 0) 0 dX10_count__45 rfl rfl ?_
      refine X.getI (pc := 46) dX10_count__46 fl_X10_151 rfl (fs_X10 hW) ?_
      exact X.iret (pc := 49) dX10_count__49 rfl (Nat.le_of_ble_eq_true rfl) (Nat.le_of_ble_eq_true rfl) h
    · have h := h.2.2.1 q8
      refine X.tsIn (pc := 1) (off := 49) 50 dX10_count__1 q9.1 q9.2 (by rw [q8]; rfl) (by decide) ?_
      refine X.aload_n (pc := 50) (i := 0) 0 dX10_count__50 rfl rfl ?_
      refine X.getI (pc := 51) dX10_count__51 fl_X10_218 rfl (fs_X10 hW) ?_
      exact X.iret (pc := 54) dX10_count__54 rfl (Nat.le_of_ble_eq_true rfl) (Nat.le_of_ble_eq_true rfl) h
    · have h := h.2.2.2.1 q8
      refine X.tsIn (pc := 1) (off := 54) 55 dX10_count__1 q9.1 q9.2 (by rw [q8]; rfl) (by decide) ?_
      refine X.aload_n (pc := 55) (i := 0) 0 dX10_count__55 rfl rfl ?_
      refine X.getI (pc := 56) dX10_count__56 fl_X10_221 rfl (fs_X10 hW) ?_
      exact X.iret (pc := 59) dX10_count__59 rfl (Nat.le_of_ble_eq_true rfl) (Nat.le_of_ble_eq_true rfl) h
    · have h := h.2.2.2.2.1 q8
      refine X.tsIn (pc := 1) (off := 59) 60 dX10_count__1 q9.1 q9.2 (by rw [q8]; rfl) (by decide) ?_
      refine X.aload_n (pc := 60) (i := 0) 0 dX10_count__60 rfl rfl ?_
      refine X.getI (pc := 61) dX10_count__61 fl_X10_164 rfl (fs_X10 hW) ?_
      exact X.iret (pc := 64) dX10_count__64 rfl (Nat.le_of_ble_eq_true rfl) (Nat.le_of_ble_eq_true rfl) h
    · have h := h.2.2.2.2.2.1 q8
      refine X.tsIn (pc := 1) (off := 64) 65 dX10_count__1 q9.1 q9.2 (by rw [q8]; rfl) (by decide) ?_
      refine X.aload_n (pc := 65) (i := 0) 0 dX10_count__65 rfl rfl ?_
      refine X.getI (pc := 66) dX10_count__66 fl_X10_167 rfl (fs_X10 hW) ?_
      exact X.iret (pc := 69) dX10_count__69 rfl (Nat.le_of_ble_eq_true rfl) (Nat.le_of_ble_eq_true rfl) h
  · have q8 : x1 < 0 ∨ 5 < x1 := by omega
    have h := h.2.2.2.2.2.2 q8
    refine X.tsOut (pc := 1) 70 dX10_count__1 q8 (by decide) ?_
    refine X.bipush (pc := 70) (y := -2) dX10_count__70 rfl ⟨by decide, by decide⟩ ?_
    exact X.iret (pc := 72) dX10_count__72 rfl (Nat.le_of_ble_eq_true rfl) (Nat.le_of_ble_eq_true rfl) h

theorem g_J7_rangeCheck_23922_0 {sh : List (Nat × Nat)} {ν : Nat → Nat → Option Nat} {μ : Nat → Nat → Int} {f s : Nat} {Q : xQ} (hW : WF sh ν f s) {x0 : Int} {x1 : Int} {x2 : Int}
    (h : ((x1 ≤ x2 → ((0 ≤ x1 → ((x2 ≤ x0 → Q none sh (ν) (μ)) ∧ (x0 < x2 → False))) ∧ (x1 < 0 → False))) ∧ (x2 < x1 → False))) :
    X mJ7_rangeCheck_23922 0 [(0, vI x0), (1, vI x1), (2, vI x2)] [] sh ν μ 0 0 Q := by
  refine X.iload_n (pc := 0) (i := 1) 1 dJ7_rangeCheck_23922_0 rfl rfl ?_
  refine X.iload_n (pc := 1) (i := 2) 2 dJ7_rangeCheck_23922_1 rfl rfl ?_
  refine X.icmp_le (pc := 2) 46 dJ7_rangeCheck_23922_2 (by decide) ⟨fun q9 => ?_, fun q9 => ?_⟩
  · have h := h.1 q9
    refine X.iload_n (pc := 46) (i := 1) 1 dJ7_rangeCheck_23922_46 rfl rfl ?_
    refine X.if_ge (pc := 47) 59 dJ7_rangeCheck_23922_47 (by decide) ⟨fun q9 => ?_, fun q9 => ?_⟩
    · have h := h.1 q9
      refine X.iload_n (pc := 59) (i := 2) 2 dJ7_rangeCheck_23922_59 rfl rfl ?_
      refine X.iload_n (pc := 60) (i := 0) 0 dJ7_rangeCheck_23922_60 rfl rfl ?_
      refine X.icmp_le (pc := 61) 73 dJ7_rangeCheck_23922_61 (by decide) ⟨fun q9 => ?_, fun q9 => ?_⟩
      · have h := h.1 q9
        exact X.vret (pc := 73) dJ7_rangeCheck_23922_73 rfl (Nat.le_of_ble_eq_true rfl) (Nat.le_of_ble_eq_true rfl) h
      · have h := h.2 q9
        exact h.elim
    · have h := h.2 q9
      exact h.elim
  · have h := h.2 q9
    exact h.elim

theorem g_J7_fill_d0a16_0 {sh : List (Nat × Nat)} {ν : Nat → Nat → Option Nat} {μ : Nat → Nat → Int} {f s : Nat} {Q : xQ} (hW : WF sh ν f s) {p0 np0 : Nat} (hp0 : sh[p0]? = some (1, np0)) {x1 : Int}
    (h : (np0 ≤ 2147483647) ∧ X mJ7_fill_d0a16 6 [(0, vR p0), (1, vL x1), (3, vI 0), (4, vI (np0 : Nat))] [] sh (ν) (μ) 0 0 Q) :
    X mJ7_fill_d0a16 0 [(0, vR p0), (1, vL x1)] [] sh ν μ 0 0 Q := by
  refine X.iconst (pc := 0) dJ7_fill_d0a16_0 ⟨by decide, by decide⟩ ?_
  refine X.istore_n (pc := 1) (i := 3) (ls' := [(3, vI 0), (0, vR p0), (1, vL x1)]) dJ7_fill_d0a16_1 rfl (by decide) rfl ?_
  refine X.aload_n (pc := 2) (i := 0) 1 dJ7_fill_d0a16_2 rfl rfl ?_
  obtain ⟨c1, h⟩ := h
  refine X.alen (pc := 3) dJ7_fill_d0a16_3 hp0 (by decide) c1 ?_
  refine X.istore (pc := 4) (i := 4) (ls' := [(4, vI (np0 : Nat)), (3, vI 0), (0, vR p0), (1, vL x1)]) dJ7_fill_d0a16_4 (by decide) rfl ?_
  exact X.pick [2, 3, 1, 0] rfl h

theorem g_J7_fill_d0a16_6 {sh : List (Nat × Nat)} {ν : Nat → Nat → Option Nat} {μ : Nat → Nat → Int} {f s : Nat} {Q : xQ} (hW : WF sh ν f s) {p0 np0 : Nat} (hp0 : sh[p0]? = some (1, np0)) {x1 : Int} {x3 : Int} {x4 : Int}
    (h : ((x4 ≤ x3 → Q none sh (ν) (μ)) ∧ (x3 < x4 → (0 ≤ x3 ∧ x3 < (np0 : Nat)) ∧ X mJ7_fill_d0a16 6 [(0, vR p0), (1, vL x1), (3, vI (w32 (x3 + 1))), (4, vI x4)] [] sh (ν) (up μ p0 (Int.toNat x3) x1) 0 0 Q))) :
    X mJ7_fill_d0a16 6 [(0, vR p0), (1, vL x1), (3, vI x3), (4, vI x4)] [] sh ν μ 0 0 Q := by
  refine X.iload_n (pc := 6) (i := 3) 2 dJ7_fill_d0a16_6 rfl rfl ?_
  refine X.iload (pc := 7) (i := 4) 3 dJ7_fill_d0a16_7 rfl ?_
  refine X.icmp_ge (pc := 9) 22 dJ7_fill_d0a16_9 (by decide) ⟨fun q9 => ?_, fun q9 => ?_⟩
  · have h := h.1 q9
    exact X.vret (pc := 22) dJ7_fill_d0a16_22 rfl (Nat.le_of_ble_eq_true rfl) (Nat.le_of_ble_eq_true rfl) h
  · have h := h.2 q9
    refine X.aload_n (pc := 12) (i := 0) 0 dJ7_fill_d0a16_12 rfl rfl ?_
    refine X.iload_n (pc := 13) (i := 3) 2 dJ7_fill_d0a16_13 rfl rfl ?_
    refine X.lload_n (pc := 14) (i := 1) 1 dJ7_fill_d0a16_14 rfl rfl ?_
    obtain ⟨c1, h⟩ := h
    refine X.lastore (pc := 15) dJ7_fill_d0a16_15 hp0 c1 ?_
    refine X.iinc (pc := 16) (i := 3) (ls' := [(3, vI (w32 (x3 + 1))), (0, vR p0), (1, vL x1), (4, vI x4)]) 2 dJ7_fill_d0a16_16 rfl (by decide) rfl ?_
    refine X.goto (pc := 19) (tgt := 6) dJ7_fill_d0a16_19 (by decide) ?_
    exact X.pick [1, 2, 0, 3] rfl h

theorem g_J7_fill_53178_0 {sh : List (Nat × Nat)} {ν : Nat → Nat → Option Nat} {μ : Nat → Nat → Int} {f s : Nat} {Q : xQ} (hW : WF sh ν f s) {p0 np0 : Nat} (hp0 : sh[p0]? = some (0, np0)) {x1 : Int}
    (h : (np0 ≤ 2147483647) ∧ X mJ7_fill_53178 5 [(0, vR p0), (1, vI x1), (2, vI 0), (3, vI (np0 : Nat))] [] sh (ν) (μ) 0 0 Q) :
    X mJ7_fill_53178 0 [(0, vR p0), (1, vI x1)] [] sh ν μ 0 0 Q := by
  refine X.iconst (pc := 0) dJ7_fill_53178_0 ⟨by decide, by decide⟩ ?_
  refine X.istore_n (pc := 1) (i := 2) (ls' := [(2, vI 0), (0, vR p0), (1, vI x1)]) dJ7_fill_53178_1 rfl (by decide) rfl ?_
  refine X.aload_n (pc := 2) (i := 0) 1 dJ7_fill_53178_2 rfl rfl ?_
  obtain ⟨c1, h⟩ := h
  refine X.alen (pc := 3) dJ7_fill_53178_3 hp0 (by decide) c1 ?_
  refine X.istore_n (pc := 4) (i := 3) (ls' := [(3, vI (np0 : Nat)), (2, vI 0), (0, vR p0), (1, vI x1)]) dJ7_fill_53178_4 rfl (by decide) rfl ?_
  exact X.pick [2, 3, 1, 0] rfl h

theorem g_J7_fill_53178_5 {sh : List (Nat × Nat)} {ν : Nat → Nat → Option Nat} {μ : Nat → Nat → Int} {f s : Nat} {Q : xQ} (hW : WF sh ν f s) {p0 np0 : Nat} (hp0 : sh[p0]? = some (0, np0)) {x1 : Int} {x2 : Int} {x3 : Int}
    (h : ((x3 ≤ x2 → Q none sh (ν) (μ)) ∧ (x2 < x3 → (0 ≤ x2 ∧ x2 < (np0 : Nat)) ∧ X mJ7_fill_53178 5 [(0, vR p0), (1, vI x1), (2, vI (w32 (x2 + 1))), (3, vI x3)] [] sh (ν) (up μ p0 (Int.toNat x2) x1) 0 0 Q))) :
    X mJ7_fill_53178 5 [(0, vR p0), (1, vI x1), (2, vI x2), (3, vI x3)] [] sh ν μ 0 0 Q := by
  refine X.iload_n (pc := 5) (i := 2) 2 dJ7_fill_53178_5 rfl rfl ?_
  refine X.iload_n (pc := 6) (i := 3) 3 dJ7_fill_53178_6 rfl rfl ?_
  refine X.icmp_ge (pc := 7) 20 dJ7_fill_53178_7 (by decide) ⟨fun q9 => ?_, fun q9 => ?_⟩
  · have h := h.1 q9
    exact X.vret (pc := 20) dJ7_fill_53178_20 rfl (Nat.le_of_ble_eq_true rfl) (Nat.le_of_ble_eq_true rfl) h
  · have h := h.2 q9
    refine X.aload_n (pc := 10) (i := 0) 0 dJ7_fill_53178_10 rfl rfl ?_
    refine X.iload_n (pc := 11) (i := 2) 2 dJ7_fill_53178_11 rfl rfl ?_
    refine X.iload_n (pc := 12) (i := 1) 1 dJ7_fill_53178_12 rfl rfl ?_
    obtain ⟨c1, h⟩ := h
    refine X.iastore (pc := 13) dJ7_fill_53178_13 hp0 c1 ?_
    refine X.iinc (pc := 14) (i := 2) (ls' := [(2, vI (w32 (x2 + 1))), (0, vR p0), (1, vI x1), (3, vI x3)]) 2 dJ7_fill_53178_14 rfl (by decide) rfl ?_
    refine X.goto (pc := 17) (tgt := 5) dJ7_fill_53178_17 (by decide) ?_
    exact X.pick [1, 2, 0, 3] rfl h

theorem g_J7_fill_031fb_0 {sh : List (Nat × Nat)} {ν : Nat → Nat → Option Nat} {μ : Nat → Nat → Int} {f s : Nat} {Q : xQ} (hW : WF sh ν f s) {p0 np0 : Nat} (hp0 : sh[p0]? = some (2, np0)) {x1 : Int}
    (h : (np0 ≤ 2147483647) ∧ X mJ7_fill_031fb 5 [(0, vR p0), (1, vI x1), (2, vI 0), (3, vI (np0 : Nat))] [] sh (ν) (μ) 0 0 Q) :
    X mJ7_fill_031fb 0 [(0, vR p0), (1, vI x1)] [] sh ν μ 0 0 Q := by
  refine X.iconst (pc := 0) dJ7_fill_031fb_0 ⟨by decide, by decide⟩ ?_
  refine X.istore_n (pc := 1) (i := 2) (ls' := [(2, vI 0), (0, vR p0), (1, vI x1)]) dJ7_fill_031fb_1 rfl (by decide) rfl ?_
  refine X.aload_n (pc := 2) (i := 0) 1 dJ7_fill_031fb_2 rfl rfl ?_
  obtain ⟨c1, h⟩ := h
  refine X.alen (pc := 3) dJ7_fill_031fb_3 hp0 (by decide) c1 ?_
  refine X.istore_n (pc := 4) (i := 3) (ls' := [(3, vI (np0 : Nat)), (2, vI 0), (0, vR p0), (1, vI x1)]) dJ7_fill_031fb_4 rfl (by decide) rfl ?_
  exact X.pick [2, 3, 1, 0] rfl h

theorem g_J7_fill_031fb_5 {sh : List (Nat × Nat)} {ν : Nat → Nat → Option Nat} {μ : Nat → Nat → Int} {f s : Nat} {Q : xQ} (hW : WF sh ν f s) {p0 np0 : Nat} (hp0 : sh[p0]? = some (2, np0)) {x1 : Int} {x2 : Int} {x3 : Int}
    (h : ((x3 ≤ x2 → Q none sh (ν) (μ)) ∧ (x2 < x3 → (0 ≤ x2 ∧ x2 < (np0 : Nat)) ∧ X mJ7_fill_031fb 5 [(0, vR p0), (1, vI x1), (2, vI (w32 (x2 + 1))), (3, vI x3)] [] sh (ν) (up μ p0 (Int.toNat x2) (w8 x1)) 0 0 Q))) :
    X mJ7_fill_031fb 5 [(0, vR p0), (1, vI x1), (2, vI x2), (3, vI x3)] [] sh ν μ 0 0 Q := by
  refine X.iload_n (pc := 5) (i := 2) 2 dJ7_fill_031fb_5 rfl rfl ?_
  refine X.iload_n (pc := 6) (i := 3) 3 dJ7_fill_031fb_6 rfl rfl ?_
  refine X.icmp_ge (pc := 7) 20 dJ7_fill_031fb_7 (by decide) ⟨fun q9 => ?_, fun q9 => ?_⟩
  · have h := h.1 q9
    exact X.vret (pc := 20) dJ7_fill_031fb_20 rfl (Nat.le_of_ble_eq_true rfl) (Nat.le_of_ble_eq_true rfl) h
  · have h := h.2 q9
    refine X.aload_n (pc := 10) (i := 0) 0 dJ7_fill_031fb_10 rfl rfl ?_
    refine X.iload_n (pc := 11) (i := 2) 2 dJ7_fill_031fb_11 rfl rfl ?_
    refine X.iload_n (pc := 12) (i := 1) 1 dJ7_fill_031fb_12 rfl rfl ?_
    obtain ⟨c1, h⟩ := h
    refine X.bastore (pc := 13) dJ7_fill_031fb_13 hp0 c1 ?_
    refine X.iinc (pc := 14) (i := 2) (ls' := [(2, vI (w32 (x2 + 1))), (0, vR p0), (1, vI x1), (3, vI x3)]) 2 dJ7_fill_031fb_14 rfl (by decide) rfl ?_
    refine X.goto (pc := 17) (tgt := 5) dJ7_fill_031fb_17 (by decide) ?_
    exact X.pick [1, 2, 0, 3] rfl h

