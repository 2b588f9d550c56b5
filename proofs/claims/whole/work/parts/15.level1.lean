theorem g_X0_begin_0 {sh : List (Nat × Nat)} {ν : Nat → Nat → Option Nat} {μ : Nat → Nat → Int} {f s : Nat} {Q : xQ} (hW : WF sh ν f s) {x1 : Int} {x2 : Int}
    (h : Q none sh (ν) (filA (up (up μ 211 1 x1) 211 2 x2) 212 0 81 (w8 0))) :
    X mX0_begin 0 [(0, vR 211), (1, vI x1), (2, vI x2)] [] sh ν μ 0 0 Q := by
  refine X.aload_n (pc := 0) (i := 0) 0 dX0_begin_0 rfl rfl ?_
  refine X.iload_n (pc := 1) (i := 1) 1 dX0_begin_1 rfl rfl ?_
  refine X.putI (pc := 2) dX0_begin_2 fl_X0_15 rfl (fun h9 => by cases h9) (fs_X0 hW) (Or.inl rfl) ?_
  refine X.aload_n (pc := 5) (i := 0) 0 dX0_begin_5 rfl rfl ?_
  refine X.iload_n (pc := 6) (i := 2) 2 dX0_begin_6 rfl rfl ?_
  refine X.putI (pc := 7) dX0_begin_7 fl_X0_19 rfl (fun h9 => by cases h9) (fs_X0 hW) (Or.inl rfl) ?_
  refine X.aload_n (pc := 10) (i := 0) 0 dX0_begin_10 rfl rfl ?_
  refine X.getR (pc := 11) (b := 212) dX0_begin_11 fl_X0_9 rfl (fs_X0 hW) (fp_X0_0 hW) ?_
  refine X.iconst (pc := 14) dX0_begin_14 ⟨by decide, by decide⟩ ?_
  refine X.pick [] rfl ?_
  refine X.callS (pc := 15) (vs := [vR 212, vI 0]) (st := []) dX0_begin_15 rfl okM_J7_fill_031fb rfl lk_X0_22 stat_J7_fill_031fb ⟨⟨by decide, by decide⟩, ⟨by decide, by decide⟩, Nat.le_of_ble_eq_true rfl⟩ (Nat.le_of_ble_eq_true rfl) (c_J7_fill_031fb hW (fa_X0_0 hW) (by decide) ?_)
  refine X.nrm (pc' := 18) (ls' := []) (st' := []) (k' := 0) (n' := 0) rfl rfl rfl rfl rfl ?_
  exact X.vret (pc := 18) dX0_begin_18 rfl (Nat.le_of_ble_eq_true rfl) (Nat.le_of_ble_eq_true rfl) h

theorem g_X0_set_0 {sh : List (Nat × Nat)} {ν : Nat → Nat → Option Nat} {μ : Nat → Nat → Int} {f s : Nat} {Q : xQ} (hW : WF sh ν f s) {x1 : Int} {x2 : Int} {x3 : Int}
    (h : ((¬ (0 ≤ (w32 (x1 + (w32 (9 * x2)))) ∧ (w32 (x1 + (w32 (9 * x2)))) < 81 ∧ (w32 (x1 + (w32 (9 * x2)))) % 9 < (μ) 211 1 ∧ (w32 (x1 + (w32 (9 * x2)))) / 9 < (μ) 211 2) → Q none sh (ν) (μ)) ∧ ((0 ≤ (w32 (x1 + (w32 (9 * x2)))) ∧ (w32 (x1 + (w32 (9 * x2)))) < 81 ∧ (w32 (x1 + (w32 (9 * x2)))) % 9 < (μ) 211 1 ∧ (w32 (x1 + (w32 (9 * x2)))) / 9 < (μ) 211 2) → (0 ≤ (w32 (x1 + (w32 (9 * x2)))) ∧ (w32 (x1 + (w32 (9 * x2)))) < (81 : Nat)) ∧ Q none sh (ν) (up μ 212 (Int.toNat (w32 (x1 + (w32 (9 * x2))))) (w8 (w8 x3)))))) :
    X mX0_set 0 [(0, vR 211), (1, vI x1), (2, vI x2), (3, vI x3)] [] sh ν μ 0 0 Q := by
  refine X.iload_n (pc := 0) (i := 1) 1 dX0_set_0 rfl rfl ?_
  refine X.bipush (pc := 1) (y := 9) dX0_set_1 rfl ⟨by decide, by decide⟩ ?_
  refine X.iload_n (pc := 3) (i := 2) 2 dX0_set_3 rfl rfl ?_
  refine X.imul (pc := 4) dX0_set_4 ?_
  refine X.iadd (pc := 5) dX0_set_5 ?_
  refine X.istore (pc := 6) (i := 4) (ls' := [(4, vI (w32 (x1 + (w32 (9 * x2))))), (0, vR 211), (1, vI x1), (2, vI x2), (3, vI x3)]) dX0_set_6 (by decide) rfl ?_
  refine X.aload_n (pc := 8) (i := 0) 1 dX0_set_8 rfl rfl ?_
  refine X.iload (pc := 9) (i := 4) 0 dX0_set_9 rfl ?_
  refine X.pick [1, 4, 0] rfl ?_
  refine X.callV (pc := 11) (vs := [vI (w32 (x1 + (w32 (9 * x2))))]) (st := []) dX0_set_11 rfl okM_X0_has rfl lk_X0_28 inst_X0_has sel_X0_has (fs_X0 hW) rfl ⟨⟨by decide, by decide⟩, ⟨by decide, by decide⟩, Nat.le_of_ble_eq_true rfl⟩ (Nat.le_of_ble_eq_true rfl) (c_X0_has hW ?_)
  refine X.nrm (pc' := 14) (ls' := [(0, vR 211), (3, vI x3), (4, vI (w32 (x1 + (w32 (9 * x2)))))]) (st' := [vI (bI (0 ≤ (w32 (x1 + (w32 (9 * x2)))) ∧ (w32 (x1 + (w32 (9 * x2)))) < 81 ∧ (w32 (x1 + (w32 (9 * x2)))) % 9 < (μ) 211 1 ∧ (w32 (x1 + (w32 (9 * x2)))) / 9 < (μ) 211 2))]) (k' := 0) (n' := 0) rfl rfl rfl rfl rfl ?_
  refine X.if_eq (pc := 14) 26 dX0_set_14 (by decide) ⟨fun q9 => ?_, fun q9 => ?_⟩
  · have h := h.1 (bI_eq.mp q9)
    exact X.vret (pc := 26) dX0_set_26 rfl (Nat.le_of_ble_eq_true rfl) (Nat.le_of_ble_eq_true rfl) h
  · have h := h.2 (bI_ne.mp q9)
    refine X.aload_n (pc := 17) (i := 0) 0 dX0_set_17 rfl rfl ?_
    refine X.getR (pc := 18) (b := 212) dX0_set_18 fl_X0_9 rfl (fs_X0 hW) (fp_X0_0 hW) ?_
    refine X.iload (pc := 21) (i := 4) 2 dX0_set_21 rfl ?_
    refine X.iload_n (pc := 23) (i := 3) 1 dX0_set_23 rfl rfl ?_
    refine X.i2b (pc := 24) dX0_set_24 ?_
    obtain ⟨c1, h⟩ := h
    refine X.bastore (pc := 25) dX0_set_25 (fa_X0_0 hW) c1 ?_
    exact X.vret (pc := 26) dX0_set_26 rfl (Nat.le_of_ble_eq_true rfl) (Nat.le_of_ble_eq_true rfl) h

theorem g_X0_soleLetter_0 {sh : List (Nat × Nat)} {ν : Nat → Nat → Option Nat} {μ : Nat → Nat → Int} {f s : Nat} {Q : xQ} (hW : WF sh ν f s) {x1 : Int} {x2 : Int} {x3 : Int} {x4 : Int}
    (h : ((¬ (0 ≤ (w32 (x1 + (w32 (9 * x2)))) ∧ (w32 (x1 + (w32 (9 * x2)))) < 81 ∧ (w32 (x1 + (w32 (9 * x2)))) % 9 < (μ) 211 1 ∧ (w32 (x1 + (w32 (9 * x2)))) / 9 < (μ) 211 2) → Q (some (vI (-9))) sh (ν) (μ)) ∧ ((0 ≤ (w32 (x1 + (w32 (9 * x2)))) ∧ (w32 (x1 + (w32 (9 * x2)))) < 81 ∧ (w32 (x1 + (w32 (9 * x2)))) % 9 < (μ) 211 1 ∧ (w32 (x1 + (w32 (9 * x2)))) / 9 < (μ) 211 2) → (((0 ≤ (w32 ((w32 ((w32 (x1 + (w32 (9 * x2)))) + (w32 (x3 - 1)))) + (w32 (9 * (w32 (x4 - 1)))))) ∧ (w32 ((w32 ((w32 (x1 + (w32 (9 * x2)))) + (w32 (x3 - 1)))) + (w32 (9 * (w32 (x4 - 1)))))) < 81 ∧ (w32 ((w32 ((w32 (x1 + (w32 (9 * x2)))) + (w32 (x3 - 1)))) + (w32 (9 * (w32 (x4 - 1)))))) % 9 < (μ) 211 1 ∧ (w32 ((w32 ((w32 (x1 + (w32 (9 * x2)))) + (w32 (x3 - 1)))) + (w32 (9 * (w32 (x4 - 1)))))) / 9 < (μ) 211 2) → (0 ≤ (w32 (x1 + (w32 (9 * x2)))) ∧ (w32 (x1 + (w32 (9 * x2)))) < (81 : Nat)) ∧ X mX0_soleLetter 53 [(0, vR 211), (3, vI x3), (4, vI x4), (5, vI (w32 (x1 + (w32 (9 * x2))))), (6, vI ((μ) 212 (Int.toNat (w32 (x1 + (w32 (9 * x2))))))), (7, vI 0)] [] sh (ν) (μ) 0 0 Q) ∧ (¬ (0 ≤ (w32 ((w32 ((w32 (x1 + (w32 (9 * x2)))) + (w32 (x3 - 1)))) + (w32 (9 * (w32 (x4 - 1)))))) ∧ (w32 ((w32 ((w32 (x1 + (w32 (9 * x2)))) + (w32 (x3 - 1)))) + (w32 (9 * (w32 (x4 - 1)))))) < 81 ∧ (w32 ((w32 ((w32 (x1 + (w32 (9 * x2)))) + (w32 (x3 - 1)))) + (w32 (9 * (w32 (x4 - 1)))))) % 9 < (μ) 211 1 ∧ (w32 ((w32 ((w32 (x1 + (w32 (9 * x2)))) + (w32 (x3 - 1)))) + (w32 (9 * (w32 (x4 - 1)))))) / 9 < (μ) 211 2) → Q (some (vI (-9))) sh (ν) (μ)))))) :
    X mX0_soleLetter 0 [(0, vR 211), (1, vI x1), (2, vI x2), (3, vI x3), (4, vI x4)] [] sh ν μ 0 0 Q := by
  refine X.iload_n (pc := 0) (i := 1) 1 dX0_soleLetter_0 rfl rfl ?_
  refine X.bipush (pc := 1) (y := 9) dX0_soleLetter_1 rfl ⟨by decide, by decide⟩ ?_
  refine X.iload_n (pc := 3) (i := 2) 2 dX0_soleLetter_3 rfl rfl ?_
  refine X.imul (pc := 4) dX0_soleLetter_4 ?_
  refine X.iadd (pc := 5) dX0_soleLetter_5 ?_
  refine X.istore (pc := 6) (i := 5) (ls' := [(5, vI (w32 (x1 + (w32 (9 * x2))))), (0, vR 211), (1, vI x1), (2, vI x2), (3, vI x3), (4, vI x4)]) dX0_soleLetter_6 (by decide) rfl ?_
  refine X.aload_n (pc := 8) (i := 0) 1 dX0_soleLetter_8 rfl rfl ?_
  refine X.iload (pc := 9) (i := 5) 0 dX0_soleLetter_9 rfl ?_
  refine X.pick [1, 4, 5, 0] rfl ?_
  refine X.callV (pc := 11) (vs := [vI (w32 (x1 + (w32 (9 * x2))))]) (st := []) dX0_soleLetter_11 rfl okM_X0_has rfl lk_X0_28 inst_X0_has sel_X0_has (fs_X0 hW) rfl ⟨⟨by decide, by decide⟩, ⟨by decide, by decide⟩, Nat.le_of_ble_eq_true rfl⟩ (Nat.le_of_ble_eq_true rfl) (c_X0_has hW ?_)
  refine X.nrm (pc' := 14) (ls' := [(0, vR 211), (3, vI x3), (4, vI x4), (5, vI (w32 (x1 + (w32 (9 * x2)))))]) (st' := [vI (bI (0 ≤ (w32 (x1 + (w32 (9 * x2)))) ∧ (w32 (x1 + (w32 (9 * x2)))) < 81 ∧ (w32 (x1 + (w32 (9 * x2)))) % 9 < (μ) 211 1 ∧ (w32 (x1 + (w32 (9 * x2)))) / 9 < (μ) 211 2))]) (k' := 0) (n' := 0) rfl rfl rfl rfl rfl ?_
  refine X.if_eq (pc := 14) 38 dX0_soleLetter_14 (by decide) ⟨fun q9 => ?_, fun q9 => ?_⟩
  · have h := h.1 (bI_eq.mp q9)
    refine X.bipush (pc := 38) (y := -9) dX0_soleLetter_38 rfl ⟨by decide, by decide⟩ ?_
    exact X.iret (pc := 40) dX0_soleLetter_40 rfl (Nat.le_of_ble_eq_true rfl) (Nat.le_of_ble_eq_true rfl) h
  · have h := h.2 (bI_ne.mp q9)
    refine X.aload_n (pc := 17) (i := 0) 0 dX0_soleLetter_17 rfl rfl ?_
    refine X.iload (pc := 18) (i := 5) 3 dX0_soleLetter_18 rfl ?_
    refine X.iload_n (pc := 20) (i := 3) 1 dX0_soleLetter_20 rfl rfl ?_
    refine X.iconst (pc := 21) dX0_soleLetter_21 ⟨by decide, by decide⟩ ?_
    refine X.isub (pc := 22) dX0_soleLetter_22 ?_
    refine X.iadd (pc := 23) dX0_soleLetter_23 ?_
    refine X.bipush (pc := 24) (y := 9) dX0_soleLetter_24 rfl ⟨by decide, by decide⟩ ?_
    refine X.iload (pc := 26) (i := 4) 2 dX0_soleLetter_26 rfl ?_
    refine X.iconst (pc := 28) dX0_soleLetter_28 ⟨by decide, by decide⟩ ?_
    refine X.isub (pc := 29) dX0_soleLetter_29 ?_
    refine X.imul (pc := 30) dX0_soleLetter_30 ?_
    refine X.iadd (pc := 31) dX0_soleLetter_31 ?_
    refine X.callV (pc := 32) (vs := [vI (w32 ((w32 ((w32 (x1 + (w32 (9 * x2)))) + (w32 (x3 - 1)))) + (w32 (9 * (w32 (x4 - 1))))))]) (st := []) dX0_soleLetter_32 rfl okM_X0_has rfl lk_X0_28 inst_X0_has sel_X0_has (fs_X0 hW) rfl ⟨⟨by decide, by decide⟩, ⟨by decide, by decide⟩, Nat.le_of_ble_eq_true rfl⟩ (Nat.le_of_ble_eq_true rfl) (c_X0_has hW ?_)
    refine X.nrm (pc' := 35) (ls' := [(0, vR 211), (3, vI x3), (4, vI x4), (5, vI (w32 (x1 + (w32 (9 * x2)))))]) (st' := [vI (bI (0 ≤ (w32 ((w32 ((w32 (x1 + (w32 (9 * x2)))) + (w32 (x3 - 1)))) + (w32 (9 * (w32 (x4 - 1)))))) ∧ (w32 ((w32 ((w32 (x1 + (w32 (9 * x2)))) + (w32 (x3 - 1)))) + (w32 (9 * (w32 (x4 - 1)))))) < 81 ∧ (w32 ((w32 ((w32 (x1 + (w32 (9 * x2)))) + (w32 (x3 - 1)))) + (w32 (9 * (w32 (x4 - 1)))))) % 9 < (μ) 211 1 ∧ (w32 ((w32 ((w32 (x1 + (w32 (9 * x2)))) + (w32 (x3 - 1)))) + (w32 (9 * (w32 (x4 - 1)))))) / 9 < (μ) 211 2))]) (k' := 0) (n' := 0) rfl rfl rfl rfl rfl ?_
    refine X.if_ne (pc := 35) 41 dX0_soleLetter_35 (by decide) ⟨fun q9 => ?_, fun q9 => ?_⟩
    · have h := h.1 (bI_ne.mp q9)
      refine X.aload_n (pc := 41) (i := 0) 0 dX0_soleLetter_41 rfl rfl ?_
      refine X.getR (pc := 42) (b := 212) dX0_soleLetter_42 fl_X0_9 rfl (fs_X0 hW) (fp_X0_0 hW) ?_
      refine X.iload (pc := 45) (i := 5) 3 dX0_soleLetter_45 rfl ?_
      obtain ⟨c1, h⟩ := h
      refine X.baload (pc := 47) dX0_soleLetter_47 (fa_X0_0 hW) c1 ?_
      refine X.istore (pc := 48) (i := 6) (ls' := [(6, vI ((μ) 212 (Int.toNat (w32 (x1 + (w32 (9 * x2))))))), (0, vR 211), (3, vI x3), (4, vI x4), (5, vI (w32 (x1 + (w32 (9 * x2)))))]) dX0_soleLetter_48 (by decide) rfl ?_
      refine X.iconst (pc := 50) dX0_soleLetter_50 ⟨by decide, by decide⟩ ?_
      refine X.istore (pc := 51) (i := 7) (ls' := [(7, vI 0), (6, vI ((μ) 212 (Int.toNat (w32 (x1 + (w32 (9 * x2))))))), (0, vR 211), (3, vI x3), (4, vI x4), (5, vI (w32 (x1 + (w32 (9 * x2)))))]) dX0_soleLetter_51 (by decide) rfl ?_
      exact X.pick [2, 3, 4, 5, 1, 0] rfl h
    · have h := h.2 (bI_eq.mp q9)
      refine X.bipush (pc := 38) (y := -9) dX0_soleLetter_38 rfl ⟨by decide, by decide⟩ ?_
      exact X.iret (pc := 40) dX0_soleLetter_40 rfl (Nat.le_of_ble_eq_true rfl) (Nat.le_of_ble_eq_true rfl) h

theorem g_X0_soleLetter_53 {sh : List (Nat × Nat)} {ν : Nat → Nat → Option Nat} {μ : Nat → Nat → Int} {f s : Nat} {Q : xQ} (hW : WF sh ν f s) {x3 : Int} {x4 : Int} {x5 : Int} {x6 : Int} {x7 : Int}
    (h : ((x4 ≤ x7 → Q (some (vI x6)) sh (ν) (μ)) ∧ (x7 < x4 → X mX0_soleLetter 73 [(0, vR 211), (3, vI x3), (4, vI x4), (5, vI x5), (6, vI x6), (7, vI x7), (8, vI (w32 (x5 + (w32 (9 * x7))))), (9, vI 0)] [] sh (ν) (μ) 0 0 Q))) :
    X mX0_soleLetter 53 [(0, vR 211), (3, vI x3), (4, vI x4), (5, vI x5), (6, vI x6), (7, vI x7)] [] sh ν μ 0 0 Q := by
  refine X.iload (pc := 53) (i := 7) 5 dX0_soleLetter_53 rfl ?_
  refine X.iload (pc := 55) (i := 4) 2 dX0_soleLetter_55 rfl ?_
  refine X.icmp_ge (pc := 57) 109 dX0_soleLetter_57 (by decide) ⟨fun q9 => ?_, fun q9 => ?_⟩
  · have h := h.1 q9
    refine X.iload (pc := 109) (i := 6) 4 dX0_soleLetter_109 rfl ?_
    exact X.iret (pc := 111) dX0_soleLetter_111 rfl (Nat.le_of_ble_eq_true rfl) (Nat.le_of_ble_eq_true rfl) h
  · have h := h.2 q9
    refine X.iload (pc := 60) (i := 5) 3 dX0_soleLetter_60 rfl ?_
    refine X.bipush (pc := 62) (y := 9) dX0_soleLetter_62 rfl ⟨by decide, by decide⟩ ?_
    refine X.iload (pc := 64) (i := 7) 5 dX0_soleLetter_64 rfl ?_
    refine X.imul (pc := 66) dX0_soleLetter_66 ?_
    refine X.iadd (pc := 67) dX0_soleLetter_67 ?_
    refine X.istore (pc := 68) (i := 8) (ls' := [(8, vI (w32 (x5 + (w32 (9 * x7))))), (0, vR 211), (3, vI x3), (4, vI x4), (5, vI x5), (6, vI x6), (7, vI x7)]) dX0_soleLetter_68 (by decide) rfl ?_
    refine X.iconst (pc := 70) dX0_soleLetter_70 ⟨by decide, by decide⟩ ?_
    refine X.istore (pc := 71) (i := 9) (ls' := [(9, vI 0), (8, vI (w32 (x5 + (w32 (9 * x7))))), (0, vR 211), (3, vI x3), (4, vI x4), (5, vI x5), (6, vI x6), (7, vI x7)]) dX0_soleLetter_71 (by decide) rfl ?_
    exact X.pick [2, 3, 4, 5, 6, 7, 1, 0] rfl h

theorem g_X0_soleLetter_73 {sh : List (Nat × Nat)} {ν : Nat → Nat → Option Nat} {μ : Nat → Nat → Int} {f s : Nat} {Q : xQ} (hW : WF sh ν f s) {x3 : Int} {x4 : Int} {x5 : Int} {x6 : Int} {x7 : Int} {x8 : Int} {x9 : Int}
    (h : ((x3 ≤ x9 → X mX0_soleLetter 53 [(0, vR 211), (3, vI x3), (4, vI x4), (5, vI x5), (6, vI x6), (7, vI (w32 (x7 + 1)))] [] sh (ν) (μ) 0 0 Q) ∧ (x9 < x3 → (0 ≤ (w32 (x8 + x9)) ∧ (w32 (x8 + x9)) < (81 : Nat)) ∧ ((((μ) 212 (Int.toNat (w32 (x8 + x9)))) = x6 → X mX0_soleLetter 73 [(0, vR 211), (3, vI x3), (4, vI x4), (5, vI x5), (6, vI x6), (7, vI x7), (8, vI x8), (9, vI (w32 (x9 + 1)))] [] sh (ν) (μ) 0 0 Q) ∧ (((μ) 212 (Int.toNat (w32 (x8 + x9)))) ≠ x6 → Q (some (vI (-9))) sh (ν) (μ)))))) :
    X mX0_soleLetter 73 [(0, vR 211), (3, vI x3), (4, vI x4), (5, vI x5), (6, vI x6), (7, vI x7), (8, vI x8), (9, vI x9)] [] sh ν μ 0 0 Q := by
  refine X.iload (pc := 73) (i := 9) 7 dX0_soleLetter_73 rfl ?_
  refine X.iload_n (pc := 75) (i := 3) 1 dX0_soleLetter_75 rfl rfl ?_
  refine X.icmp_ge (pc := 76) 103 dX0_soleLetter_76 (by decide) ⟨fun q9 => ?_, fun q9 => ?_⟩
  · have h := h.1 q9
    refine X.iinc (pc := 103) (i := 7) (ls' := [(7, vI (w32 (x7 + 1))), (0, vR 211), (3, vI x3), (4, vI x4), (5, vI x5), (6, vI x6), (8, vI x8), (9, vI x9)]) 5 dX0_soleLetter_103 rfl (by decide) rfl ?_
    refine X.goto (pc := 106) (tgt := 53) dX0_soleLetter_106 (by decide) ?_
    exact X.pick [1, 2, 3, 4, 5, 0] rfl h
  · have h := h.2 q9
    refine X.aload_n (pc := 79) (i := 0) 0 dX0_soleLetter_79 rfl rfl ?_
    refine X.getR (pc := 80) (b := 212) dX0_soleLetter_80 fl_X0_9 rfl (fs_X0 hW) (fp_X0_0 hW) ?_
    refine X.iload (pc := 83) (i := 8) 6 dX0_soleLetter_83 rfl ?_
    refine X.iload (pc := 85) (i := 9) 7 dX0_soleLetter_85 rfl ?_
    refine X.iadd (pc := 87) dX0_soleLetter_87 ?_
    obtain ⟨c1, h⟩ := h
    refine X.baload (pc := 88) dX0_soleLetter_88 (fa_X0_0 hW) c1 ?_
    refine X.iload (pc := 89) (i := 6) 4 dX0_soleLetter_89 rfl ?_
    refine X.icmp_eq (pc := 91) 97 dX0_soleLetter_91 (by decide) ⟨fun q9 => ?_, fun q9 => ?_⟩
    · have h := h.1 q9
      refine X.iinc (pc := 97) (i := 9) (ls' := [(9, vI (w32 (x9 + 1))), (0, vR 211), (3, vI x3), (4, vI x4), (5, vI x5), (6, vI x6), (7, vI x7), (8, vI x8)]) 7 dX0_soleLetter_97 rfl (by decide) rfl ?_
      refine X.goto (pc := 100) (tgt := 73) dX0_soleLetter_100 (by decide) ?_
      exact X.pick [1, 2, 3, 4, 5, 6, 7, 0] rfl h
    · have h := h.2 q9
      refine X.bipush (pc := 94) (y := -9) dX0_soleLetter_94 rfl ⟨by decide, by decide⟩ ?_
      exact X.iret (pc := 96) dX0_soleLetter_96 rfl (Nat.le_of_ble_eq_true rfl) (Nat.le_of_ble_eq_true rfl) h

theorem g_X1_costOf_0 {sh : List (Nat × Nat)} {ν : Nat → Nat → Option Nat} {μ : Nat → Nat → Int} {f s : Nat} {Q : xQ} (hW : WF sh ν f s) {p0 : Nat} (hp0 : isChart p0) {x1 : Int}
    (h : ((0 ≤ (rdO ((μ) (p0 + 16) (Int.toNat x1)) (-9) x1 (nsp p0 * nsp p0 * 8)) → Q (some (vI (w32 (w64 (Int.tdiv (rdO ((μ) (p0 + 16) (Int.toNat x1)) (-9) x1 (nsp p0 * nsp p0 * 8)) 1048576))))) sh (ν) (μ)) ∧ ((rdO ((μ) (p0 + 16) (Int.toNat x1)) (-9) x1 (nsp p0 * nsp p0 * 8)) < 0 → Q (some (vI (-9))) sh (ν) (μ)))) :
    X mX1_costOf 0 [(0, vR p0), (1, vI x1)] [] sh ν μ 0 0 Q := by
  refine X.aload_n (pc := 0) (i := 0) 0 dX1_costOf_0 rfl rfl ?_
  refine X.iload_n (pc := 1) (i := 1) 1 dX1_costOf_1 rfl rfl ?_
  refine X.pick [] rfl ?_
  refine X.callV (pc := 2) (vs := [vI x1]) (st := []) dX1_costOf_2 rfl okM_X1_weightOf rfl lk_X1_86 inst_X1_weightOf sel_X1_weightOf (fs_X1 hW hp0) rfl ⟨⟨by decide, by decide⟩, ⟨by decide, by decide⟩, Nat.le_of_ble_eq_true rfl⟩ (Nat.le_of_ble_eq_true rfl) (c_X1_weightOf hW hp0 ?_)
  refine X.nrm (pc' := 5) (ls' := []) (st' := [vL (rdO ((μ) (p0 + 16) (Int.toNat x1)) (-9) x1 (nsp p0 * nsp p0 * 8))]) (k' := 0) (n' := 0) rfl rfl rfl rfl rfl ?_
  refine X.lstore_n (pc := 5) (i := 2) (ls' := [(2, vL (rdO ((μ) (p0 + 16) (Int.toNat x1)) (-9) x1 (nsp p0 * nsp p0 * 8)))]) dX1_costOf_5 rfl (by decide) rfl ?_
  refine X.lload_n (pc := 6) (i := 2) 0 dX1_costOf_6 rfl rfl ?_
  refine X.lconst (pc := 7) (y := 0) dX1_costOf_7 rfl ⟨by decide, by decide⟩ ?_
  refine X.lcmp (pc := 8) dX1_costOf_8 ?_
  refine X.if_ge (pc := 9) 17 dX1_costOf_9 (by decide) ⟨fun q9 => ?_, fun q9 => ?_⟩
  · have h := h.1 (xl_ge.mp q9)
    refine X.lload_n (pc := 17) (i := 2) 0 dX1_costOf_17 rfl rfl ?_
    refine X.ldc2 (pc := 18) (y := 1048576) dX1_costOf_18 kc_X1_90 rfl ⟨by decide, by decide⟩ ?_
    refine X.ldiv (pc := 21) dX1_costOf_21 (by decide) ?_
    refine X.l2i (pc := 22) dX1_costOf_22 ?_
    exact X.iret (pc := 23) dX1_costOf_23 rfl (Nat.le_of_ble_eq_true rfl) (Nat.le_of_ble_eq_true rfl) h
  · have h := h.2 (xl_lt.mp q9)
    refine X.bipush (pc := 12) (y := -9) dX1_costOf_12 rfl ⟨by decide, by decide⟩ ?_
    refine X.goto (pc := 14) (tgt := 23) dX1_costOf_14 (by decide) ?_
    exact X.iret (pc := 23) dX1_costOf_23 rfl (Nat.le_of_ble_eq_true rfl) (Nat.le_of_ble_eq_true rfl) h

theorem g_X1_stepsOf_0 {sh : List (Nat × Nat)} {ν : Nat → Nat → Option Nat} {μ : Nat → Nat → Int} {f s : Nat} {Q : xQ} (hW : WF sh ν f s) {p0 : Nat} (hp0 : isChart p0) {x1 : Int}
    (h : ((0 ≤ (rdO ((μ) (p0 + 16) (Int.toNat x1)) (-9) x1 (nsp p0 * nsp p0 * 8)) → Q (some (vI (w32 (w64 (Int.tmod (rdO ((μ) (p0 + 16) (Int.toNat x1)) (-9) x1 (nsp p0 * nsp p0 * 8)) 1048576))))) sh (ν) (μ)) ∧ ((rdO ((μ) (p0 + 16) (Int.toNat x1)) (-9) x1 (nsp p0 * nsp p0 * 8)) < 0 → Q (some (vI 0)) sh (ν) (μ)))) :
    X mX1_stepsOf 0 [(0, vR p0), (1, vI x1)] [] sh ν μ 0 0 Q := by
  refine X.aload_n (pc := 0) (i := 0) 0 dX1_stepsOf_0 rfl rfl ?_
  refine X.iload_n (pc := 1) (i := 1) 1 dX1_stepsOf_1 rfl rfl ?_
  refine X.pick [] rfl ?_
  refine X.callV (pc := 2) (vs := [vI x1]) (st := []) dX1_stepsOf_2 rfl okM_X1_weightOf rfl lk_X1_86 inst_X1_weightOf sel_X1_weightOf (fs_X1 hW hp0) rfl ⟨⟨by decide, by decide⟩, ⟨by decide, by decide⟩, Nat.le_of_ble_eq_true rfl⟩ (Nat.le_of_ble_eq_true rfl) (c_X1_weightOf hW hp0 ?_)
  refine X.nrm (pc' := 5) (ls' := []) (st' := [vL (rdO ((μ) (p0 + 16) (Int.toNat x1)) (-9) x1 (nsp p0 * nsp p0 * 8))]) (k' := 0) (n' := 0) rfl rfl rfl rfl rfl ?_
  refine X.lstore_n (pc := 5) (i := 2) (ls' := [(2, vL (rdO ((μ) (p0 + 16) (Int.toNat x1)) (-9) x1 (nsp p0 * nsp p0 * 8)))]) dX1_stepsOf_5 rfl (by decide) rfl ?_
  refine X.lload_n (pc := 6) (i := 2) 0 dX1_stepsOf_6 rfl rfl ?_
  refine X.lconst (pc := 7) (y := 0) dX1_stepsOf_7 rfl ⟨by decide, by decide⟩ ?_
  refine X.lcmp (pc := 8) dX1_stepsOf_8 ?_
  refine X.if_ge (pc := 9) 16 dX1_stepsOf_9 (by decide) ⟨fun q9 => ?_, fun q9 => ?_⟩
  · have h := h.1 (xl_ge.mp q9)
    refine X.lload_n (pc := 16) (i := 2) 0 dX1_stepsOf_16 rfl rfl ?_
    refine X.ldc2 (pc := 17) (y := 1048576) dX1_stepsOf_17 kc_X1_90 rfl ⟨by decide, by decide⟩ ?_
    refine X.lrem (pc := 20) dX1_stepsOf_20 (by decide) ?_
    refine X.l2i (pc := 21) dX1_stepsOf_21 ?_
    exact X.iret (pc := 22) dX1_stepsOf_22 rfl (Nat.le_of_ble_eq_true rfl) (Nat.le_of_ble_eq_true rfl) h
  · have h := h.2 (xl_lt.mp q9)
    refine X.iconst (pc := 12) dX1_stepsOf_12 ⟨by decide, by decide⟩ ?_
    refine X.goto (pc := 13) (tgt := 22) dX1_stepsOf_13 (by decide) ?_
    exact X.iret (pc := 22) dX1_stepsOf_22 rfl (Nat.le_of_ble_eq_true rfl) (Nat.le_of_ble_eq_true rfl) h

theorem g_X1_cellOfPart_0 {sh : List (Nat × Nat)} {ν : Nat → Nat → Option Nat} {μ : Nat → Nat → Int} {f s : Nat} {Q : xQ} (hW : WF sh ν f s) {p0 : Nat} (hp0 : isChart p0) {x1 : Int} {x2 : Int} {x3 : Int}
    (h : (((μ) p0 4) ≠ 0) ∧ (((μ) p0 4) ≠ 0) ∧ ((x2 = 0 → (0 ≤ (w32 (Int.tdiv x1 ((μ) p0 4))) ∧ (w32 (Int.tdiv x1 ((μ) p0 4))) < (nsp p0 : Nat)) ∧ (0 ≤ x3 ∧ x3 < (20 : Nat)) ∧ (0 ≤ x3 ∧ x3 < (20 : Nat)) ∧ (0 ≤ (w32 (((μ) (p0 + 11) (Int.toNat (w32 (Int.tdiv x1 ((μ) p0 4))))) + ((μ) 209 (Int.toNat x3)))) ∧ (w32 (((μ) (p0 + 11) (Int.toNat (w32 (Int.tdiv x1 ((μ) p0 4))))) + ((μ) 209 (Int.toNat x3)))) ≤ 20) ∧ (1 ≤ ((μ) 210 (Int.toNat x3)) ∧ ((μ) 210 (Int.toNat x3)) ≤ 20) ∧ Q (some (vI (w32 ((w32 ((spF ((μ) p0 3) (w32 (((μ) (p0 + 11) (Int.toNat (w32 (Int.tdiv x1 ((μ) p0 4))))) + ((μ) 209 (Int.toNat x3)))) ((μ) 210 (Int.toNat x3))) * ((μ) p0 4))) + (w32 (Int.tmod x1 ((μ) p0 4))))))) sh (ν) (μ)) ∧ (x2 ≠ 0 → (0 ≤ (w32 (Int.tmod x1 ((μ) p0 4))) ∧ (w32 (Int.tmod x1 ((μ) p0 4))) < (nsp p0 : Nat)) ∧ (0 ≤ x3 ∧ x3 < (20 : Nat)) ∧ (0 ≤ x3 ∧ x3 < (20 : Nat)) ∧ (0 ≤ (w32 (((μ) (p0 + 11) (Int.toNat (w32 (Int.tmod x1 ((μ) p0 4))))) + ((μ) 209 (Int.toNat x3)))) ∧ (w32 (((μ) (p0 + 11) (Int.toNat (w32 (Int.tmod x1 ((μ) p0 4))))) + ((μ) 209 (Int.toNat x3)))) ≤ 20) ∧ (1 ≤ ((μ) 210 (Int.toNat x3)) ∧ ((μ) 210 (Int.toNat x3)) ≤ 20) ∧ Q (some (vI (w32 ((w32 ((w32 (Int.tdiv x1 ((μ) p0 4))) * ((μ) p0 4))) + (spF ((μ) p0 3) (w32 (((μ) (p0 + 11) (Int.toNat (w32 (Int.tmod x1 ((μ) p0 4))))) + ((μ) 209 (Int.toNat x3)))) ((μ) 210 (Int.toNat x3))))))) sh (ν) (μ)))) :
    X mX1_cellOfPart 0 [(0, vR p0), (1, vI x1), (2, vI x2), (3, vI x3)] [] sh ν μ 0 0 Q := by
  refine X.iload_n (pc := 0) (i := 1) 1 dX1_cellOfPart_0 rfl rfl ?_
  refine X.aload_n (pc := 1) (i := 0) 0 dX1_cellOfPart_1 rfl rfl ?_
  refine X.getI (pc := 2) dX1_cellOfPart_2 fl_X1_37 rfl (fs_X1 hW hp0) ?_
  obtain ⟨c1, h⟩ := h
  refine X.idiv (pc := 5) dX1_cellOfPart_5 c1 ?_
  refine X.istore (pc := 6) (i := 4) (ls' := [(4, vI (w32 (Int.tdiv x1 ((μ) p0 4)))), (0, vR p0), (1, vI x1), (2, vI x2), (3, vI x3)]) dX1_cellOfPart_6 (by decide) rfl ?_
  refine X.iload_n (pc := 8) (i := 1) 2 dX1_cellOfPart_8 rfl rfl ?_
  refine X.aload_n (pc := 9) (i := 0) 1 dX1_cellOfPart_9 rfl rfl ?_
  refine X.getI (pc := 10) dX1_cellOfPart_10 fl_X1_37 rfl (fs_X1 hW hp0) ?_
  obtain ⟨c2, h⟩ := h
  refine X.irem (pc := 13) dX1_cellOfPart_13 c2 ?_
  refine X.istore (pc := 14) (i := 5) (ls' := [(5, vI (w32 (Int.tmod x1 ((μ) p0 4)))), (4, vI (w32 (Int.tdiv x1 ((μ) p0 4)))), (0, vR p0), (1, vI x1), (2, vI x2), (3, vI x3)]) dX1_cellOfPart_14 (by decide) rfl ?_
  refine X.iload_n (pc := 16) (i := 2) 4 dX1_cellOfPart_16 rfl rfl ?_
  refine X.if_eq (pc := 17) 55 dX1_cellOfPart_17 (by decide) ⟨fun q9 => ?_, fun q9 => ?_⟩
  · have h := h.1 q9
    refine X.aload_n (pc := 55) (i := 0) 2 dX1_cellOfPart_55 rfl rfl ?_
    refine X.aload_n (pc := 56) (i := 0) 2 dX1_cellOfPart_56 rfl rfl ?_
    refine X.getR (pc := 57) (b := (p0 + 11)) dX1_cellOfPart_57 fl_X1_41 rfl (fs_X1 hW hp0) (fp_X1_5 hW hp0) ?_
    refine X.iload (pc := 60) (i := 4) 1 dX1_cellOfPart_60 rfl ?_
    obtain ⟨c3, h⟩ := h
    refine X.iaload (pc := 62) dX1_cellOfPart_62 (fa_X1_5 hW hp0) c3 ?_
    refine X.aload_n (pc := 63) (i := 0) 2 dX1_cellOfPart_63 rfl rfl ?_
    refine X.getR (pc := 64) (b := 207) dX1_cellOfPart_64 fl_X1_26 rfl (fs_X1 hW hp0) (fp_X1_1 hW hp0) ?_
    refine X.getR (pc := 67) (b := 209) dX1_cellOfPart_67 fl_X1_94 rfl (fs_X5 hW) (fp_X5_1 hW) ?_
    refine X.iload_n (pc := 70) (i := 3) 5 dX1_cellOfPart_70 rfl rfl ?_
    obtain ⟨c4, h⟩ := h
    refine X.iaload (pc := 71) dX1_cellOfPart_71 (fa_X5_1 hW) c4 ?_
    refine X.iadd (pc := 72) dX1_cellOfPart_72 ?_
    refine X.aload_n (pc := 73) (i := 0) 2 dX1_cellOfPart_73 rfl rfl ?_
    refine X.getR (pc := 74) (b := 207) dX1_cellOfPart_74 fl_X1_26 rfl (fs_X1 hW hp0) (fp_X1_1 hW hp0) ?_
    refine X.getR (pc := 77) (b := 210) dX1_cellOfPart_77 fl_X1_99 rfl (fs_X5 hW) (fp_X5_2 hW) ?_
    refine X.iload_n (pc := 80) (i := 3) 5 dX1_cellOfPart_80 rfl rfl ?_
    obtain ⟨c5, h⟩ := h
    refine X.iaload (pc := 81) dX1_cellOfPart_81 (fa_X5_2 hW) c5 ?_
    refine X.pick [2, 0] rfl ?_
    obtain ⟨c6, h⟩ := h
    obtain ⟨c7, h⟩ := h
    refine X.callV (pc := 82) (vs := [vI (w32 (((μ) (p0 + 11) (Int.toNat (w32 (Int.tdiv x1 ((μ) p0 4))))) + ((μ) 209 (Int.toNat x3)))), vI ((μ) 210 (Int.toNat x3))]) (st := []) dX1_cellOfPart_82 rfl okM_X1_spanOf rfl lk_X1_71 inst_X1_spanOf sel_X1_spanOf (fs_X1 hW hp0) rfl ⟨⟨by decide, by decide⟩, ⟨by decide, by decide⟩, Nat.le_of_ble_eq_true rfl⟩ (Nat.le_of_ble_eq_true rfl) (c_X1_spanOf hW hp0 c6 c7 ?_)
    refine X.nrm (pc' := 85) (ls' := [(0, vR p0), (5, vI (w32 (Int.tmod x1 ((μ) p0 4))))]) (st' := [vI (spF ((μ) p0 3) (w32 (((μ) (p0 + 11) (Int.toNat (w32 (Int.tdiv x1 ((μ) p0 4))))) + ((μ) 209 (Int.toNat x3)))) ((μ) 210 (Int.toNat x3)))]) (k' := 0) (n' := 0) rfl rfl rfl rfl rfl ?_
    refine X.istore (pc := 85) (i := 4) (ls' := [(4, vI (spF ((μ) p0 3) (w32 (((μ) (p0 + 11) (Int.toNat (w32 (Int.tdiv x1 ((μ) p0 4))))) + ((μ) 209 (Int.toNat x3)))) ((μ) 210 (Int.toNat x3)))), (0, vR p0), (5, vI (w32 (Int.tmod x1 ((μ) p0 4))))]) dX1_cellOfPart_85 (by decide) rfl ?_
    refine X.iload (pc := 87) (i := 4) 0 dX1_cellOfPart_87 rfl ?_
    refine X.aload_n (pc := 89) (i := 0) 1 dX1_cellOfPart_89 rfl rfl ?_
    refine X.getI (pc := 90) dX1_cellOfPart_90 fl_X1_37 rfl (fs_X1 hW hp0) ?_
    refine X.imul (pc := 93) dX1_cellOfPart_93 ?_
    refine X.iload (pc := 94) (i := 5) 2 dX1_cellOfPart_94 rfl ?_
    refine X.iadd (pc := 96) dX1_cellOfPart_96 ?_
    exact X.iret (pc := 97) dX1_cellOfPart_97 rfl (Nat.le_of_ble_eq_true rfl) (Nat.le_of_ble_eq_true rfl) h
  · have h := h.2 q9
    refine X.aload_n (pc := 20) (i := 0) 2 dX1_cellOfPart_20 rfl rfl ?_
    refine X.aload_n (pc := 21) (i := 0) 2 dX1_cellOfPart_21 rfl rfl ?_
    refine X.getR (pc := 22) (b := (p0 + 11)) dX1_cellOfPart_22 fl_X1_41 rfl (fs_X1 hW hp0) (fp_X1_5 hW hp0) ?_
    refine X.iload (pc := 25) (i := 5) 0 dX1_cellOfPart_25 rfl ?_
    obtain ⟨c8, h⟩ := h
    refine X.iaload (pc := 27) dX1_cellOfPart_27 (fa_X1_5 hW hp0) c8 ?_
    refine X.aload_n (pc := 28) (i := 0) 2 dX1_cellOfPart_28 rfl rfl ?_
    refine X.getR (pc := 29) (b := 207) dX1_cellOfPart_29 fl_X1_26 rfl (fs_X1 hW hp0) (fp_X1_1 hW hp0) ?_
    refine X.getR (pc := 32) (b := 209) dX1_cellOfPart_32 fl_X1_94 rfl (fs_X5 hW) (fp_X5_1 hW) ?_
    refine X.iload_n (pc := 35) (i := 3) 5 dX1_cellOfPart_35 rfl rfl ?_
    obtain ⟨c9, h⟩ := h
    refine X.iaload (pc := 36) dX1_cellOfPart_36 (fa_X5_1 hW) c9 ?_
    refine X.iadd (pc := 37) dX1_cellOfPart_37 ?_
    refine X.aload_n (pc := 38) (i := 0) 2 dX1_cellOfPart_38 rfl rfl ?_
    refine X.getR (pc := 39) (b := 207) dX1_cellOfPart_39 fl_X1_26 rfl (fs_X1 hW hp0) (fp_X1_1 hW hp0) ?_
    refine X.getR (pc := 42) (b := 210) dX1_cellOfPart_42 fl_X1_99 rfl (fs_X5 hW) (fp_X5_2 hW) ?_
    refine X.iload_n (pc := 45) (i := 3) 5 dX1_cellOfPart_45 rfl rfl ?_
    obtain ⟨c10, h⟩ := h
    refine X.iaload (pc := 46) dX1_cellOfPart_46 (fa_X5_2 hW) c10 ?_
    refine X.pick [2, 1] rfl ?_
    obtain ⟨c11, h⟩ := h
    obtain ⟨c12, h⟩ := h
    refine X.callV (pc := 47) (vs := [vI (w32 (((μ) (p0 + 11) (Int.toNat (w32 (Int.tmod x1 ((μ) p0 4))))) + ((μ) 209 (Int.toNat x3)))), vI ((μ) 210 (Int.toNat x3))]) (st := []) dX1_cellOfPart_47 rfl okM_X1_spanOf rfl lk_X1_71 inst_X1_spanOf sel_X1_spanOf (fs_X1 hW hp0) rfl ⟨⟨by decide, by decide⟩, ⟨by decide, by decide⟩, Nat.le_of_ble_eq_true rfl⟩ (Nat.le_of_ble_eq_true rfl) (c_X1_spanOf hW hp0 c11 c12 ?_)
    refine X.nrm (pc' := 50) (ls' := [(0, vR p0), (4, vI (w32 (Int.tdiv x1 ((μ) p0 4))))]) (st' := [vI (spF ((μ) p0 3) (w32 (((μ) (p0 + 11) (Int.toNat (w32 (Int.tmod x1 ((μ) p0 4))))) + ((μ) 209 (Int.toNat x3)))) ((μ) 210 (Int.toNat x3)))]) (k' := 0) (n' := 0) rfl rfl rfl rfl rfl ?_
    refine X.istore (pc := 50) (i := 5) (ls' := [(5, vI (spF ((μ) p0 3) (w32 (((μ) (p0 + 11) (Int.toNat (w32 (Int.tmod x1 ((μ) p0 4))))) + ((μ) 209 (Int.toNat x3)))) ((μ) 210 (Int.toNat x3)))), (0, vR p0), (4, vI (w32 (Int.tdiv x1 ((μ) p0 4))))]) dX1_cellOfPart_50 (by decide) rfl ?_
    refine X.goto (pc := 52) (tgt := 87) dX1_cellOfPart_52 (by decide) ?_
    refine X.iload (pc := 87) (i := 4) 2 dX1_cellOfPart_87 rfl ?_
    refine X.aload_n (pc := 89) (i := 0) 1 dX1_cellOfPart_89 rfl rfl ?_
    refine X.getI (pc := 90) dX1_cellOfPart_90 fl_X1_37 rfl (fs_X1 hW hp0) ?_
    refine X.imul (pc := 93) dX1_cellOfPart_93 ?_
    refine X.iload (pc := 94) (i := 5) 0 dX1_cellOfPart_94 rfl ?_
    refine X.iadd (pc := 96) dX1_cellOfPart_96 ?_
    exact X.iret (pc := 97) dX1_cellOfPart_97 rfl (Nat.le_of_ble_eq_true rfl) (Nat.le_of_ble_eq_true rfl) h

theorem g_X2_empty_0 {sh : List (Nat × Nat)} {ν : Nat → Nat → Option Nat} {μ : Nat → Nat → Int} {f s : Nat} {Q : xQ} (hW : WF sh ν f s) {p0 : Nat} (hp0 : isFront p0)
    (h : Q none sh (ν) (up (up (up (up μ p0 2 0) p0 3 0) p0 4 0) p0 5 0)) :
    X mX2_empty 0 [(0, vR p0)] [] sh ν μ 0 0 Q := by
  refine X.aload_n (pc := 0) (i := 0) 0 dX2_empty_0 rfl rfl ?_
  refine X.iconst (pc := 1) dX2_empty_1 ⟨by decide, by decide⟩ ?_
  refine X.iconst (pc := 2) dX2_empty_2 ⟨by decide, by decide⟩ ?_
  refine X.pick [] rfl ?_
  refine X.callV (pc := 3) (vs := [vI 0, vI 0]) (st := []) dX2_empty_3 rfl okM_X2_begin rfl lk_X2_31 inst_X2_begin sel_X2_begin (fs_X2 hW hp0) rfl ⟨⟨by decide, by decide⟩, ⟨by decide, by decide⟩, Nat.le_of_ble_eq_true rfl⟩ (Nat.le_of_ble_eq_true rfl) ?_
  refine X.nrm (pc' := 0) (ls' := [(0, vR p0), (1, vI 0), (2, vI 0)]) (st' := []) (k' := 0) (n' := 0) rfl rfl rfl rfl rfl ?_
  refine X.aload_n (pc := 0) (i := 0) 0 dX2_begin_0 rfl rfl ?_
  refine X.iload_n (pc := 1) (i := 1) 1 dX2_begin_1 rfl rfl ?_
  refine X.putI (pc := 2) dX2_begin_2 fl_X2_18 rfl (fun h9 => by cases h9) (fs_X2 hW hp0) (Or.inl rfl) ?_
  refine X.aload_n (pc := 5) (i := 0) 0 dX2_begin_5 rfl rfl ?_
  refine X.iload_n (pc := 6) (i := 2) 2 dX2_begin_6 rfl rfl ?_
  refine X.putI (pc := 7) dX2_begin_7 fl_X2_22 rfl (fun h9 => by cases h9) (fs_X2 hW hp0) (Or.inl rfl) ?_
  refine X.aload_n (pc := 10) (i := 0) 0 dX2_begin_10 rfl rfl ?_
  refine X.iconst (pc := 11) dX2_begin_11 ⟨by decide, by decide⟩ ?_
  refine X.putI (pc := 12) dX2_begin_12 fl_X2_25 rfl (fun h9 => by cases h9) (fs_X2 hW hp0) (Or.inl rfl) ?_
  refine X.aload_n (pc := 15) (i := 0) 0 dX2_begin_15 rfl rfl ?_
  refine X.iconst (pc := 16) dX2_begin_16 ⟨by decide, by decide⟩ ?_
  refine X.putI (pc := 17) dX2_begin_17 fl_X2_28 rfl (fun h9 => by cases h9) (fs_X2 hW hp0) (Or.inl rfl) ?_
  refine X.vret (pc := 20) dX2_begin_20 rfl (Nat.le_of_ble_eq_true rfl) (Nat.le_of_ble_eq_true rfl) ?_
  refine X.nrm (pc' := 6) (ls' := []) (st' := []) (k' := 0) (n' := 0) rfl rfl rfl rfl rfl ?_
  exact X.vret (pc := 6) dX2_empty_6 rfl (Nat.le_of_ble_eq_true rfl) (Nat.le_of_ble_eq_true rfl) h

theorem g_X3_empty_0 {sh : List (Nat × Nat)} {ν : Nat → Nat → Option Nat} {μ : Nat → Nat → Int} {f s : Nat} {Q : xQ} (hW : WF sh ν f s) 
    (h : Q none sh (ν) (up (up (up (up μ 1 2 0) 3 3 0) 3 4 0) 3 5 0)) :
    X mX3_empty 0 [(0, vR 1)] [] sh ν μ 0 0 Q := by
  refine X.aload_n (pc := 0) (i := 0) 0 dX3_empty_0 rfl rfl ?_
  refine X.iconst (pc := 1) dX3_empty_1 ⟨by decide, by decide⟩ ?_
  refine X.putI (pc := 2) dX3_empty_2 fl_X3_24 rfl (fun h9 => by cases h9) (fs_X3 hW) (Or.inl rfl) ?_
  refine X.aload_n (pc := 5) (i := 0) 0 dX3_empty_5 rfl rfl ?_
  refine X.getR (pc := 6) (b := 3) dX3_empty_6 fl_X3_20 rfl (fs_X3 hW) (fp_X3_1 hW) ?_
  refine X.pick [] rfl ?_
  refine X.callV (pc := 9) (vs := []) (st := []) dX3_empty_9 rfl okM_X6_empty rfl lk_X3_29 inst_X6_empty sel_X6_empty (fs_X6 hW mk_coll) rfl ⟨⟨by decide, by decide⟩, ⟨by decide, by decide⟩, Nat.le_of_ble_eq_true rfl⟩ (Nat.le_of_ble_eq_true rfl) ?_
  refine X.nrm (pc' := 0) (ls' := [(0, vR 3)]) (st' := []) (k' := 0) (n' := 0) rfl rfl rfl rfl rfl ?_
  refine X.aload_n (pc := 0) (i := 0) 0 dX6_empty_0 rfl rfl ?_
  refine X.iconst (pc := 1) dX6_empty_1 ⟨by decide, by decide⟩ ?_
  refine X.putI (pc := 2) dX6_empty_2 fl_X6_21 rfl (fun h9 => by cases h9) (fs_X6 hW mk_coll) (Or.inl rfl) ?_
  refine X.aload_n (pc := 5) (i := 0) 0 dX6_empty_5 rfl rfl ?_
  refine X.iconst (pc := 6) dX6_empty_6 ⟨by decide, by decide⟩ ?_
  refine X.putI (pc := 7) dX6_empty_7 fl_X6_25 rfl (fun h9 => by cases h9) (fs_X6 hW mk_coll) (Or.inl rfl) ?_
  refine X.aload_n (pc := 10) (i := 0) 0 dX6_empty_10 rfl rfl ?_
  refine X.iconst (pc := 11) dX6_empty_11 ⟨by decide, by decide⟩ ?_
  refine X.putI (pc := 12) dX6_empty_12 fl_X6_28 rfl (fun h9 => by cases h9) (fs_X6 hW mk_coll) (Or.inl rfl) ?_
  refine X.vret (pc := 15) dX6_empty_15 rfl (Nat.le_of_ble_eq_true rfl) (Nat.le_of_ble_eq_true rfl) ?_
  refine X.nrm (pc' := 12) (ls' := []) (st' := []) (k' := 0) (n' := 0) rfl rfl rfl rfl rfl ?_
  exact X.vret (pc := 12) dX3_empty_12 rfl (Nat.le_of_ble_eq_true rfl) (Nat.le_of_ble_eq_true rfl) h

theorem g_X3_addFill_0 {sh : List (Nat × Nat)} {ν : Nat → Nat → Option Nat} {μ : Nat → Nat → Int} {f s : Nat} {Q : xQ} (hW : WF sh ν f s) {x1 : Int} {x2 : Int} {x3 : Int}
    (h : ((¬ (40 ≤ (μ) 1 2) → (0 ≤ ((μ) 1 2) ∧ ((μ) 1 2) < (40 : Nat)) ∧ (0 ≤ ((μ) 1 2) ∧ ((μ) 1 2) < (40 : Nat)) ∧ Q (some (vI ((μ) 1 2))) sh (ν) (up (up (up (up (up (up (up (up (up (up (up (up (up μ (7 + 5 * (Int.toNat ((μ) 1 2))) 1 x1) (7 + 5 * (Int.toNat ((μ) 1 2))) 2 0) (7 + 5 * (Int.toNat ((μ) 1 2))) 3 x3) (7 + 5 * (Int.toNat ((μ) 1 2))) 4 (-9)) ((7 + 5 * (Int.toNat ((μ) 1 2))) + 1) 3 0) ((7 + 5 * (Int.toNat ((μ) 1 2))) + 1) 4 0) ((7 + 5 * (Int.toNat ((μ) 1 2))) + 1) 5 0) (7 + 5 * (Int.toNat ((μ) 1 2))) 5 1) (7 + 5 * (Int.toNat ((μ) 1 2))) 6 20) (7 + 5 * (Int.toNat ((μ) 1 2))) 7 1) (7 + 5 * (Int.toNat ((μ) 1 2))) 8 20) (7 + 5 * (Int.toNat ((μ) 1 2))) 4 x2) 1 2 (w32 (((μ) 1 2) + 1)))) ∧ ((40 ≤ (μ) 1 2) → Q (some (vI (-4))) sh (ν) (μ)))) :
    X mX3_addFill 0 [(0, vR 1), (1, vI x1), (2, vI x2), (3, vI x3)] [] sh ν μ 0 0 Q := by
  refine X.aload_n (pc := 0) (i := 0) 0 dX3_addFill_0 rfl rfl ?_
  refine X.callV (pc := 1) (vs := []) (st := []) dX3_addFill_1 rfl okM_X3_isFull rfl lk_X3_32 inst_X3_isFull sel_X3_isFull (fs_X3 hW) rfl ⟨⟨by decide, by decide⟩, ⟨by decide, by decide⟩, Nat.le_of_ble_eq_true rfl⟩ (Nat.le_of_ble_eq_true rfl) (c_X3_isFull hW ?_)
  refine X.nrm (pc' := 4) (ls' := [(0, vR 1), (1, vI x1), (2, vI x2), (3, vI x3)]) (st' := [vI (bI (40 ≤ (μ) 1 2))]) (k' := 0) (n' := 0) rfl rfl rfl rfl rfl ?_
  refine X.if_eq (pc := 4) 10 dX3_addFill_4 (by decide) ⟨fun q9 => ?_, fun q9 => ?_⟩
  · have h := h.1 (bI_eq.mp q9)
    refine X.aload_n (pc := 10) (i := 0) 0 dX3_addFill_10 rfl rfl ?_
    refine X.getR (pc := 11) (b := 2) dX3_addFill_11 fl_X3_11 rfl (fs_X3 hW) (fp_X3_0 hW) ?_
    refine X.aload_n (pc := 14) (i := 0) 0 dX3_addFill_14 rfl rfl ?_
    refine X.getI (pc := 15) dX3_addFill_15 fl_X3_24 rfl (fs_X3 hW) ?_
    obtain ⟨c1, h⟩ := h
    refine X.aaload (pc := 18) dX3_addFill_18 (fa_X3_0 hW) (Or.inl rfl) c1 (fe_rules hW c1) ?_
    refine X.iload_n (pc := 19) (i := 1) 1 dX3_addFill_19 rfl rfl ?_
    refine X.iconst (pc := 20) dX3_addFill_20 ⟨by decide, by decide⟩ ?_
    refine X.iload_n (pc := 21) (i := 3) 3 dX3_addFill_21 rfl rfl ?_
    refine X.pick [0, 2] rfl ?_
    refine X.callV (pc := 22) (vs := [vI x1, vI 0, vI x3]) (st := []) dX3_addFill_22 rfl okM_X7_begin rfl lk_X3_36 inst_X7_begin sel_X7_begin (fs_X7 hW (mk_rules c1)) rfl ⟨⟨by decide, by decide⟩, ⟨by decide, by decide⟩, Nat.le_of_ble_eq_true rfl⟩ (Nat.le_of_ble_eq_true rfl) ?_
    refine X.nrm (pc' := 0) (ls' := [(0, vR (7 + 5 * (Int.toNat ((μ) 1 2)))), (1, vI x1), (2, vI 0), (3, vI x3)]) (st' := []) (k' := 0) (n' := 0) rfl rfl rfl rfl rfl ?_
    refine X.aload_n (pc := 0) (i := 0) 0 dX7_begin_0 rfl rfl ?_
    refine X.iload_n (pc := 1) (i := 1) 1 dX7_begin_1 rfl rfl ?_
    refine X.putI (pc := 2) dX7_begin_2 fl_X7_18 rfl (fun h9 => by cases h9) (fs_X7 hW (mk_rules c1)) (Or.inl rfl) ?_
    refine X.aload_n (pc := 5) (i := 0) 0 dX7_begin_5 rfl rfl ?_
    refine X.iload_n (pc := 6) (i := 2) 2 dX7_begin_6 rfl rfl ?_
    refine X.putI (pc := 7) dX7_begin_7 fl_X7_22 rfl (fun h9 => by cases h9) (fs_X7 hW (mk_rules c1)) (Or.inl rfl) ?_
    refine X.aload_n (pc := 10) (i := 0) 0 dX7_begin_10 rfl rfl ?_
    refine X.iload_n (pc := 11) (i := 3) 3 dX7_begin_11 rfl rfl ?_
    refine X.putI (pc := 12) dX7_begin_12 fl_X7_25 rfl (fun h9 => by cases h9) (fs_X7 hW (mk_rules c1)) (Or.inl rfl) ?_
    refine X.aload_n (pc := 15) (i := 0) 0 dX7_begin_15 rfl rfl ?_
    refine X.bipush (pc := 16) (y := -9) dX7_begin_16 rfl ⟨by decide, by decide⟩ ?_
    refine X.putI (pc := 18) dX7_begin_18 fl_X7_28 rfl (fun h9 => by cases h9) (fs_X7 hW (mk_rules c1)) (Or.inl rfl) ?_
    refine X.aload_n (pc := 21) (i := 0) 0 dX7_begin_21 rfl rfl ?_
    refine X.getR (pc := 22) (b := ((7 + 5 * (Int.toNat ((μ) 1 2))) + 1)) dX7_begin_22 fl_X7_12 rfl (fs_X7 hW (mk_rules c1)) (fp_X7_0 hW (mk_rules c1)) ?_
    refine X.pick [0] rfl ?_
    refine X.callV (pc := 25) (vs := []) (st := []) dX7_begin_25 rfl okM_X6_empty rfl lk_X7_43 inst_X6_empty sel_X6_empty (fs_X6 hW (mk_rule_parts (mk_rules c1))) rfl ⟨⟨by decide, by decide⟩, ⟨by decide, by decide⟩, Nat.le_of_ble_eq_true rfl⟩ (Nat.le_of_ble_eq_true rfl) ?_
    refine X.nrm (pc' := 0) (ls' := [(0, vR ((7 + 5 * (Int.toNat ((μ) 1 2))) + 1))]) (st' := []) (k' := 0) (n' := 0) rfl rfl rfl rfl rfl ?_
    refine X.aload_n (pc := 0) (i := 0) 0 dX6_empty_0 rfl rfl ?_
    refine X.iconst (pc := 1) dX6_empty_1 ⟨by decide, by decide⟩ ?_
    refine X.putI (pc := 2) dX6_empty_2 fl_X6_21 rfl (fun h9 => by cases h9) (fs_X6 hW (mk_rule_parts (mk_rules c1))) (Or.inl rfl) ?_
    refine X.aload_n (pc := 5) (i := 0) 0 dX6_empty_5 rfl rfl ?_
    refine X.iconst (pc := 6) dX6_empty_6 ⟨by decide, by decide⟩ ?_
    refine X.putI (pc := 7) dX6_empty_7 fl_X6_25 rfl (fun h9 => by cases h9) (fs_X6 hW (mk_rule_parts (mk_rules c1))) (Or.inl rfl) ?_
    refine X.aload_n (pc := 10) (i := 0) 0 dX6_empty_10 rfl rfl ?_
    refine X.iconst (pc := 11) dX6_empty_11 ⟨by decide, by decide⟩ ?_
    refine X.putI (pc := 12) dX6_empty_12 fl_X6_28 rfl (fun h9 => by cases h9) (fs_X6 hW (mk_rule_parts (mk_rules c1))) (Or.inl rfl) ?_
    refine X.vret (pc := 15) dX6_empty_15 rfl (Nat.le_of_ble_eq_true rfl) (Nat.le_of_ble_eq_true rfl) ?_
    refine X.nrm (pc' := 28) (ls' := [(0, vR (7 + 5 * (Int.toNat ((μ) 1 2))))]) (st' := []) (k' := 0) (n' := 0) rfl rfl rfl rfl rfl ?_
    refine X.aload_n (pc := 28) (i := 0) 0 dX7_begin_28 rfl rfl ?_
    refine X.iconst (pc := 29) dX7_begin_29 ⟨by decide, by decide⟩ ?_
    refine X.iconst (pc := 30) dX7_begin_30 ⟨by decide, by decide⟩ ?_
    refine X.bipush (pc := 31) (y := 20) dX7_begin_31 rfl ⟨by decide, by decide⟩ ?_
    refine X.callV (pc := 33) (vs := [vI 0, vI 1, vI 20]) (st := []) dX7_begin_33 rfl okM_X7_limit rfl lk_X7_46 inst_X7_limit sel_X7_limit (fs_X7 hW (mk_rules c1)) rfl ⟨⟨by decide, by decide⟩, ⟨by decide, by decide⟩, Nat.le_of_ble_eq_true rfl⟩ (Nat.le_of_ble_eq_true rfl) ?_
    refine X.nrm (pc' := 0) (ls' := [(0, vR (7 + 5 * (Int.toNat ((μ) 1 2)))), (1, vI 0), (2, vI 1), (3, vI 20)]) (st' := []) (k' := 0) (n' := 0) rfl rfl rfl rfl rfl ?_
    refine X.iload_n (pc := 0) (i := 1) 1 dX7_limit_0 rfl rfl ?_
    refine X.if_eq (pc := 1) 17 dX7_limit_1 (by decide) ⟨fun _ => ?_, fun q9 => absurd q9 (by decide)⟩
    refine X.aload_n (pc := 17) (i := 0) 0 dX7_limit_17 rfl rfl ?_
    refine X.iload_n (pc := 18) (i := 2) 2 dX7_limit_18 rfl rfl ?_
    refine X.putI (pc := 19) dX7_limit_19 fl_X7_31 rfl (fun h9 => by cases h9) (fs_X7 hW (mk_rules c1)) (Or.inl rfl) ?_
    refine X.aload_n (pc := 22) (i := 0) 0 dX7_limit_22 rfl rfl ?_
    refine X.iload_n (pc := 23) (i := 3) 3 dX7_limit_23 rfl rfl ?_
    refine X.putI (pc := 24) dX7_limit_24 fl_X7_34 rfl (fun h9 => by cases h9) (fs_X7 hW (mk_rules c1)) (Or.inl rfl) ?_
    refine X.vret (pc := 27) dX7_limit_27 rfl (Nat.le_of_ble_eq_true rfl) (Nat.le_of_ble_eq_true rfl) ?_
    refine X.nrm (pc' := 36) (ls' := [(0, vR (7 + 5 * (Int.toNat ((μ) 1 2))))]) (st' := []) (k' := 0) (n' := 0) rfl rfl rfl rfl rfl ?_
    refine X.aload_n (pc := 36) (i := 0) 0 dX7_begin_36 rfl rfl ?_
    refine X.iconst (pc := 37) dX7_begin_37 ⟨by decide, by decide⟩ ?_
    refine X.iconst (pc := 38) dX7_begin_38 ⟨by decide, by decide⟩ ?_
    refine X.bipush (pc := 39) (y := 20) dX7_begin_39 rfl ⟨by decide, by decide⟩ ?_
    refine X.pick [] rfl ?_
    refine X.callV (pc := 41) (vs := [vI 1, vI 1, vI 20]) (st := []) dX7_begin_41 rfl okM_X7_limit rfl lk_X7_46 inst_X7_limit sel_X7_limit (fs_X7 hW (mk_rules c1)) rfl ⟨⟨by decide, by decide⟩, ⟨by decide, by decide⟩, Nat.le_of_ble_eq_true rfl⟩ (Nat.le_of_ble_eq_true rfl) ?_
    refine X.nrm (pc' := 0) (ls' := [(0, vR (7 + 5 * (Int.toNat ((μ) 1 2)))), (1, vI 1), (2, vI 1), (3, vI 20)]) (st' := []) (k' := 0) (n' := 0) rfl rfl rfl rfl rfl ?_
    refine X.iload_n (pc := 0) (i := 1) 1 dX7_limit_0 rfl rfl ?_
    refine X.if_eq (pc := 1) 17 dX7_limit_1 (by decide) ⟨fun q9 => absurd q9 (by decide), fun _ => ?_⟩
    refine X.aload_n (pc := 4) (i := 0) 0 dX7_limit_4 rfl rfl ?_
    refine X.iload_n (pc := 5) (i := 2) 2 dX7_limit_5 rfl rfl ?_
    refine X.putI (pc := 6) dX7_limit_6 fl_X7_37 rfl (fun h9 => by cases h9) (fs_X7 hW (mk_rules c1)) (Or.inl rfl) ?_
    refine X.aload_n (pc := 9) (i := 0) 0 dX7_limit_9 rfl rfl ?_
    refine X.iload_n (pc := 10) (i := 3) 3 dX7_limit_10 rfl rfl ?_
    refine X.putI (pc := 11) dX7_limit_11 fl_X7_40 rfl (fun h9 => by cases h9) (fs_X7 hW (mk_rules c1)) (Or.inl rfl) ?_
    refine X.goto (pc := 14) (tgt := 27) dX7_limit_14 (by decide) ?_
    refine X.vret (pc := 27) dX7_limit_27 rfl (Nat.le_of_ble_eq_true rfl) (Nat.le_of_ble_eq_true rfl) ?_
    refine X.nrm (pc' := 44) (ls' := []) (st' := []) (k' := 0) (n' := 0) rfl rfl rfl rfl rfl ?_
    refine X.vret (pc := 44) dX7_begin_44 rfl (Nat.le_of_ble_eq_true rfl) (Nat.le_of_ble_eq_true rfl) ?_
    refine X.nrm (pc' := 25) (ls' := [(0, vR 1), (2, vI x2)]) (st' := []) (k' := 0) (n' := 0) rfl rfl rfl rfl rfl ?_
    refine X.aload_n (pc := 25) (i := 0) 0 dX3_addFill_25 rfl rfl ?_
    refine X.getR (pc := 26) (b := 2) dX3_addFill_26 fl_X3_11 rfl (fs_X3 hW) (fp_X3_0 hW) ?_
    refine X.aload_n (pc := 29) (i := 0) 0 dX3_addFill_29 rfl rfl ?_
    refine X.getI (pc := 30) dX3_addFill_30 fl_X3_24 rfl (fs_X3 hW) ?_
    refine X.topI (y := ((μ) 1 2)) (Eq.trans (up_a (by omega) _) (Eq.trans (up_a (by omega) _) (Eq.trans (up_a (by omega) _) (Eq.trans (up_a (by omega) _) (Eq.trans (up_a (by omega) _) (Eq.trans (up_a (by omega) _) (Eq.trans (up_a (by omega) _) (Eq.trans (up_a (by omega) _) (Eq.trans (up_a (by omega) _) (Eq.trans (up_a (by omega) _) ((up_a (by omega) _)))))))))))) ?_
    obtain ⟨c2, h⟩ := h
    refine X.aaload (pc := 33) dX3_addFill_33 (fa_X3_0 hW) (Or.inl rfl) c2 (fe_rules hW c2) ?_
    refine X.iload_n (pc := 34) (i := 2) 1 dX3_addFill_34 rfl rfl ?_
    refine X.putI (pc := 35) dX3_addFill_35 fl_X3_40 rfl (fun h9 => by cases h9) (fs_X7 hW (mk_rules c2)) (Or.inl rfl) ?_
    refine X.aload_n (pc := 38) (i := 0) 0 dX3_addFill_38 rfl rfl ?_
    refine X.dup (pc := 39) dX3_addFill_39 rfl ?_
    refine X.getI (pc := 40) dX3_addFill_40 fl_X3_24 rfl (fs_X3 hW) ?_
    refine X.topI (y := ((μ) 1 2)) (Eq.trans (up_a (by omega) _) (Eq.trans (up_a (by omega) _) (Eq.trans (up_a (by omega) _) (Eq.trans (up_a (by omega) _) (Eq.trans (up_a (by omega) _) (Eq.trans (up_a (by omega) _) (Eq.trans (up_a (by omega) _) (Eq.trans (up_a (by omega) _) (Eq.trans (up_a (by omega) _) (Eq.trans (up_a (by omega) _) (Eq.trans (up_a (by omega) _) ((up_a (by omega) _))))))))))))) ?_
    refine X.dup_x1 (pc := 43) dX3_addFill_43 rfl rfl ?_
    refine X.iconst (pc := 44) dX3_addFill_44 ⟨by decide, by decide⟩ ?_
    refine X.iadd (pc := 45) dX3_addFill_45 ?_
    refine X.putI (pc := 46) dX3_addFill_46 fl_X3_24 rfl (fun h9 => by cases h9) (fs_X3 hW) (Or.inl rfl) ?_
    exact X.iret (pc := 49) dX3_addFill_49 rfl (Nat.le_of_ble_eq_true rfl) (Nat.le_of_ble_eq_true rfl) h
  · have h := h.2 (bI_ne.mp q9)
    refine X.bipush (pc := 7) (y := -4) dX3_addFill_7 rfl ⟨by decide, by decide⟩ ?_
    exact X.iret (pc := 9) dX3_addFill_9 rfl (Nat.le_of_ble_eq_true rfl) (Nat.le_of_ble_eq_true rfl) h

theorem g_X4_begin_0 {sh : List (Nat × Nat)} {ν : Nat → Nat → Option Nat} {μ : Nat → Nat → Int} {f s : Nat} {Q : xQ} (hW : WF sh ν f s) {p0 : Nat} (hp0 : isKnot p0)
    (h : Q none sh (ν) (up (up (filA (filA (filA μ (p0 + 1) 0 8 0) (p0 + 4) 0 8 (-9)) (p0 + 5) 0 8 (-9)) p0 9 0) p0 10 0)) :
    X mX4_begin 0 [(0, vR p0)] [] sh ν μ 0 0 Q := by
  refine X.aload_n (pc := 0) (i := 0) 0 dX4_begin_0 rfl rfl ?_
  refine X.getR (pc := 1) (b := (p0 + 1)) dX4_begin_1 fl_X4_9 rfl (fs_X4 hW hp0) (fp_X4_0 hW hp0) ?_
  refine X.lconst (pc := 4) (y := 0) dX4_begin_4 rfl ⟨by decide, by decide⟩ ?_
  refine X.callS (pc := 5) (vs := [vR (p0 + 1), vL 0]) (st := []) dX4_begin_5 rfl okM_J7_fill_d0a16 rfl lk_X4_47 stat_J7_fill_d0a16 ⟨⟨by decide, by decide⟩, ⟨by decide, by decide⟩, Nat.le_of_ble_eq_true rfl⟩ (Nat.le_of_ble_eq_true rfl) (c_J7_fill_d0a16 hW (fa_X4_0 hW hp0) (by decide) ?_)
  refine X.nrm (pc' := 8) (ls' := [(0, vR p0)]) (st' := []) (k' := 0) (n' := 0) rfl rfl rfl rfl rfl ?_
  refine X.aload_n (pc := 8) (i := 0) 0 dX4_begin_8 rfl rfl ?_
  refine X.getR (pc := 9) (b := (p0 + 4)) dX4_begin_9 fl_X4_21 rfl (fs_X4 hW hp0) (fp_X4_3 hW hp0) ?_
  refine X.ldc2 (pc := 12) (y := -9) dX4_begin_12 kc_X4_53 rfl ⟨by decide, by decide⟩ ?_
  refine X.callS (pc := 15) (vs := [vR (p0 + 4), vL (-9)]) (st := []) dX4_begin_15 rfl okM_J7_fill_d0a16 rfl lk_X4_47 stat_J7_fill_d0a16 ⟨⟨by decide, by decide⟩, ⟨by decide, by decide⟩, Nat.le_of_ble_eq_true rfl⟩ (Nat.le_of_ble_eq_true rfl) (c_J7_fill_d0a16 hW (fa_X4_3 hW hp0) (by decide) ?_)
  refine X.nrm (pc' := 18) (ls' := [(0, vR p0)]) (st' := []) (k' := 0) (n' := 0) rfl rfl rfl rfl rfl ?_
  refine X.aload_n (pc := 18) (i := 0) 0 dX4_begin_18 rfl rfl ?_
  refine X.getR (pc := 19) (b := (p0 + 5)) dX4_begin_19 fl_X4_24 rfl (fs_X4 hW hp0) (fp_X4_4 hW hp0) ?_
  refine X.bipush (pc := 22) (y := -9) dX4_begin_22 rfl ⟨by decide, by decide⟩ ?_
  refine X.callS (pc := 24) (vs := [vR (p0 + 5), vI (-9)]) (st := []) dX4_begin_24 rfl okM_J7_fill_53178 rfl lk_X4_55 stat_J7_fill_53178 ⟨⟨by decide, by decide⟩, ⟨by decide, by decide⟩, Nat.le_of_ble_eq_true rfl⟩ (Nat.le_of_ble_eq_true rfl) (c_J7_fill_53178 hW (fa_X4_4 hW hp0) (by decide) ?_)
  refine X.nrm (pc' := 27) (ls' := [(0, vR p0)]) (st' := []) (k' := 0) (n' := 0) rfl rfl rfl rfl rfl ?_
  refine X.aload_n (pc := 27) (i := 0) 0 dX4_begin_27 rfl rfl ?_
  refine X.iconst (pc := 28) dX4_begin_28 ⟨by decide, by decide⟩ ?_
  refine X.putI (pc := 29) dX4_begin_29 fl_X4_40 rfl (fun h9 => by cases h9) (fs_X4 hW hp0) (Or.inl rfl) ?_
  refine X.aload_n (pc := 32) (i := 0) 0 dX4_begin_32 rfl rfl ?_
  refine X.iconst (pc := 33) dX4_begin_33 ⟨by decide, by decide⟩ ?_
  refine X.putI (pc := 34) dX4_begin_34 fl_X4_44 rfl (fun h9 => by cases h9) (fs_X4 hW hp0) (Or.inl rfl) ?_
  exact X.vret (pc := 37) dX4_begin_37 rfl (Nat.le_of_ble_eq_true rfl) (Nat.le_of_ble_eq_true rfl) h

theorem g_X4_gain_0 {sh : List (Nat × Nat)} {ν : Nat → Nat → Option Nat} {μ : Nat → Nat → Int} {f s : Nat} {Q : xQ} (hW : WF sh ν f s) {p0 : Nat} (hp0 : isKnot p0) {x1 : Int} {x2 : Int} {x3 : Int} {x5 : Int}
    (h : ((x3 ≠ (-10) → (0 ≤ x1 ∧ x1 < (8 : Nat)) ∧ ((0 : Int) ≤ ((μ) (p0 + 1) (Int.toNat x1)) ∧ (((μ) (p0 + 1) (Int.toNat x1)) : Int) ≤ 1000000000000000000) ∧ ((0 : Int) ≤ x3 ∧ (x3 : Int) ≤ 1000000000000000000) ∧ (0 ≤ x1 ∧ x1 < (8 : Nat)) ∧ X mX4_gain 39 [(0, vR p0), (1, vI x1), (2, vI x2), (5, vL x5)] [] sh (ν) (up μ (p0 + 1) (Int.toNat x1) (min (((μ) (p0 + 1) (Int.toNat x1)) + x3) 1000000000000000000)) 0 0 Q) ∧ (x3 = (-10) → X mX4_gain 39 [(0, vR p0), (1, vI x1), (2, vI x2), (5, vL x5)] [] sh (ν) (up μ p0 10 (xor_ ((μ) p0 10) (xshl 1 x1))) 0 0 Q))) :
    X mX4_gain 0 [(0, vR p0), (1, vI x1), (2, vI x2), (3, vL x3), (5, vL x5)] [] sh ν μ 0 0 Q := by
  refine X.lload_n (pc := 0) (i := 3) 3 dX4_gain_0 rfl rfl ?_
  refine X.ldc2 (pc := 1) (y := -10) dX4_gain_1 kc_X4_58 rfl ⟨by decide, by decide⟩ ?_
  refine X.lcmp (pc := 4) dX4_gain_4 ?_
  refine X.if_ne (pc := 5) 23 dX4_gain_5 (by decide) ⟨fun q9 => ?_, fun q9 => ?_⟩
  · have h := h.1 (xl_ne.mp q9)
    refine X.aload_n (pc := 23) (i := 0) 0 dX4_gain_23 rfl rfl ?_
    refine X.getR (pc := 24) (b := (p0 + 1)) dX4_gain_24 fl_X4_9 rfl (fs_X4 hW hp0) (fp_X4_0 hW hp0) ?_
    refine X.iload_n (pc := 27) (i := 1) 1 dX4_gain_27 rfl rfl ?_
    refine X.aload_n (pc := 28) (i := 0) 0 dX4_gain_28 rfl rfl ?_
    refine X.getR (pc := 29) (b := (p0 + 1)) dX4_gain_29 fl_X4_9 rfl (fs_X4 hW hp0) (fp_X4_0 hW hp0) ?_
    refine X.iload_n (pc := 32) (i := 1) 1 dX4_gain_32 rfl rfl ?_
    obtain ⟨c1, h⟩ := h
    refine X.laload (pc := 33) dX4_gain_33 (fa_X4_0 hW hp0) c1 ?_
    refine X.lload_n (pc := 34) (i := 3) 3 dX4_gain_34 rfl rfl ?_
    refine X.pick [0, 1, 2, 4] rfl ?_
    obtain ⟨c2, h⟩ := h
    obtain ⟨c3, h⟩ := h
    refine X.callS (pc := 35) (vs := [vL ((μ) (p0 + 1) (Int.toNat x1)), vL x3]) (st := [vI x1, vR (p0 + 1)]) dX4_gain_35 rfl okM_X4_plus rfl lk_X4_60 stat_X4_plus ⟨⟨by decide, by decide⟩, ⟨by decide, by decide⟩, Nat.le_of_ble_eq_true rfl⟩ (Nat.le_of_ble_eq_true rfl) (c_X4_plus hW c2 c3 ?_)
    refine X.nrm (pc' := 38) (ls' := [(0, vR p0), (1, vI x1), (2, vI x2), (5, vL x5)]) (st' := [vL (min (((μ) (p0 + 1) (Int.toNat x1)) + x3) 1000000000000000000), vI x1, vR (p0 + 1)]) (k' := 0) (n' := 0) rfl rfl rfl rfl rfl ?_
    obtain ⟨c4, h⟩ := h
    refine X.lastore (pc := 38) dX4_gain_38 (fa_X4_0 hW hp0) c4 ?_
    exact h
  · have h := h.2 (xl_eq.mp q9)
    refine X.aload_n (pc := 8) (i := 0) 0 dX4_gain_8 rfl rfl ?_
    refine X.dup (pc := 9) dX4_gain_9 rfl ?_
    refine X.getI (pc := 10) dX4_gain_10 fl_X4_44 rfl (fs_X4 hW hp0) ?_
    refine X.iconst (pc := 13) dX4_gain_13 ⟨by decide, by decide⟩ ?_
    refine X.iload_n (pc := 14) (i := 1) 1 dX4_gain_14 rfl rfl ?_
    refine X.ishl (pc := 15) dX4_gain_15 ?_
    refine X.ior (pc := 16) dX4_gain_16 ?_
    refine X.putI (pc := 17) dX4_gain_17 fl_X4_44 rfl (fun h9 => by cases h9) (fs_X4 hW hp0) (Or.inl rfl) ?_
    refine X.goto (pc := 20) (tgt := 39) dX4_gain_20 (by decide) ?_
    exact X.pick [0, 1, 2, 4] rfl h

theorem g_X4_gain_39 {sh : List (Nat × Nat)} {ν : Nat → Nat → Option Nat} {μ : Nat → Nat → Int} {f s : Nat} {Q : xQ} (hW : WF sh ν f s) {p0 : Nat} (hp0 : isKnot p0) {x1 : Int} {x2 : Int} {x5 : Int}
    (h : (0 ≤ x1 ∧ x1 < (8 : Nat)) ∧ ((((μ) (p0 + 4) (Int.toNat x1)) < 0 → X mX4_gain 62 [(0, vR p0), (1, vI x1), (2, vI x2), (5, vL x5)] [] sh (ν) (μ) 0 0 Q) ∧ (0 ≤ ((μ) (p0 + 4) (Int.toNat x1)) → (0 ≤ x1 ∧ x1 < (8 : Nat)) ∧ ((((μ) (p0 + 4) (Int.toNat x1)) ≤ x5 → Q none sh (ν) (μ)) ∧ (x5 < ((μ) (p0 + 4) (Int.toNat x1)) → X mX4_gain 62 [(0, vR p0), (1, vI x1), (2, vI x2), (5, vL x5)] [] sh (ν) (μ) 0 0 Q))))) :
    X mX4_gain 39 [(0, vR p0), (1, vI x1), (2, vI x2), (5, vL x5)] [] sh ν μ 0 0 Q := by
  refine X.aload_n (pc := 39) (i := 0) 0 dX4_gain_39 rfl rfl ?_
  refine X.getR (pc := 40) (b := (p0 + 4)) dX4_gain_40 fl_X4_21 rfl (fs_X4 hW hp0) (fp_X4_3 hW hp0) ?_
  refine X.iload_n (pc := 43) (i := 1) 1 dX4_gain_43 rfl rfl ?_
  obtain ⟨c1, h⟩ := h
  refine X.laload (pc := 44) dX4_gain_44 (fa_X4_3 hW hp0) c1 ?_
  refine X.lconst (pc := 45) (y := 0) dX4_gain_45 rfl ⟨by decide, by decide⟩ ?_
  refine X.lcmp (pc := 46) dX4_gain_46 ?_
  refine X.if_lt (pc := 47) 62 dX4_gain_47 (by decide) ⟨fun q9 => ?_, fun q9 => ?_⟩
  · have h := h.1 (xl_lt.mp q9)
    exact h
  · have h := h.2 (xl_ge.mp q9)
    refine X.lload (pc := 50) (i := 5) 3 dX4_gain_50 rfl ?_
    refine X.aload_n (pc := 52) (i := 0) 0 dX4_gain_52 rfl rfl ?_
    refine X.getR (pc := 53) (b := (p0 + 4)) dX4_gain_53 fl_X4_21 rfl (fs_X4 hW hp0) (fp_X4_3 hW hp0) ?_
    refine X.iload_n (pc := 56) (i := 1) 1 dX4_gain_56 rfl rfl ?_
    obtain ⟨c2, h⟩ := h
    refine X.laload (pc := 57) dX4_gain_57 (fa_X4_3 hW hp0) c2 ?_
    refine X.lcmp (pc := 58) dX4_gain_58 ?_
    refine X.if_ge (pc := 59) 77 dX4_gain_59 (by decide) ⟨fun q9 => ?_, fun q9 => ?_⟩
    · have h := h.1 (xl_ge.mp q9)
      exact X.vret (pc := 77) dX4_gain_77 rfl (Nat.le_of_ble_eq_true rfl) (Nat.le_of_ble_eq_true rfl) h
    · have h := h.2 (xl_lt.mp q9)
      exact h

theorem g_X4_gain_62 {sh : List (Nat × Nat)} {ν : Nat → Nat → Option Nat} {μ : Nat → Nat → Int} {f s : Nat} {Q : xQ} (hW : WF sh ν f s) {p0 : Nat} (hp0 : isKnot p0) {x1 : Int} {x2 : Int} {x5 : Int}
    (h : (0 ≤ x1 ∧ x1 < (8 : Nat)) ∧ (0 ≤ x1 ∧ x1 < (8 : Nat)) ∧ Q none sh (ν) (up (up μ (p0 + 4) (Int.toNat x1) x5) (p0 + 5) (Int.toNat x1) x2)) :
    X mX4_gain 62 [(0, vR p0), (1, vI x1), (2, vI x2), (5, vL x5)] [] sh ν μ 0 0 Q := by
  refine X.aload_n (pc := 62) (i := 0) 0 dX4_gain_62 rfl rfl ?_
  refine X.getR (pc := 63) (b := (p0 + 4)) dX4_gain_63 fl_X4_21 rfl (fs_X4 hW hp0) (fp_X4_3 hW hp0) ?_
  refine X.iload_n (pc := 66) (i := 1) 1 dX4_gain_66 rfl rfl ?_
  refine X.lload (pc := 67) (i := 5) 3 dX4_gain_67 rfl ?_
  obtain ⟨c1, h⟩ := h
  refine X.lastore (pc := 69) dX4_gain_69 (fa_X4_3 hW hp0) c1 ?_
  refine X.aload_n (pc := 70) (i := 0) 0 dX4_gain_70 rfl rfl ?_
  refine X.getR (pc := 71) (b := (p0 + 5)) dX4_gain_71 fl_X4_24 rfl (fs_X4 hW hp0) (fp_X4_4 hW hp0) ?_
  refine X.iload_n (pc := 74) (i := 1) 1 dX4_gain_74 rfl rfl ?_
  refine X.iload_n (pc := 75) (i := 2) 2 dX4_gain_75 rfl rfl ?_
  obtain ⟨c2, h⟩ := h
  refine X.iastore (pc := 76) dX4_gain_76 (fa_X4_4 hW hp0) c2 ?_
  exact X.vret (pc := 77) dX4_gain_77 rfl (Nat.le_of_ble_eq_true rfl) (Nat.le_of_ble_eq_true rfl) h

theorem g_X4_sumTies_0 {sh : List (Nat × Nat)} {ν : Nat → Nat → Option Nat} {μ : Nat → Nat → Int} {f s : Nat} {Q : xQ} (hW : WF sh ν f s) {p0 : Nat} (hp0 : isKnot p0)
    (h : X mX4_sumTies 2 [(0, vR p0), (1, vI 0)] [] sh (ν) (μ) 0 0 Q) :
    X mX4_sumTies 0 [(0, vR p0)] [] sh ν μ 0 0 Q := by
  refine X.iconst (pc := 0) dX4_sumTies_0 ⟨by decide, by decide⟩ ?_
  refine X.istore_n (pc := 1) (i := 1) (ls' := [(1, vI 0), (0, vR p0)]) dX4_sumTies_1 rfl (by decide) rfl ?_
  exact X.pick [1, 0] rfl h

theorem g_X4_sumTies_2 {sh : List (Nat × Nat)} {ν : Nat → Nat → Option Nat} {μ : Nat → Nat → Int} {f s : Nat} {Q : xQ} (hW : WF sh ν f s) {p0 : Nat} (hp0 : isKnot p0) {x1 : Int}
    (h : ((8 ≤ x1 → Q none sh (ν) (μ)) ∧ (x1 < 8 → X mX4_sumTies 40 [(0, vR p0), (1, vI x1), (2, vI 0)] [] sh (ν) (cpy (cpy μ (p0 + 2) (p0 + 3) 8) (p0 + 1) (p0 + 2) 8) 0 0 Q))) :
    X mX4_sumTies 2 [(0, vR p0), (1, vI x1)] [] sh ν μ 0 0 Q := by
  refine X.iload_n (pc := 2) (i := 1) 1 dX4_sumTies_2 rfl rfl ?_
  refine X.bipush (pc := 3) (y := 8) dX4_sumTies_3 rfl ⟨by decide, by decide⟩ ?_
  refine X.icmp_ge (pc := 5) 93 dX4_sumTies_5 (by decide) ⟨fun q9 => ?_, fun q9 => ?_⟩
  · have h := h.1 q9
    exact X.vret (pc := 93) dX4_sumTies_93 rfl (Nat.le_of_ble_eq_true rfl) (Nat.le_of_ble_eq_true rfl) h
  · have h := h.2 q9
    refine X.aload_n (pc := 8) (i := 0) 0 dX4_sumTies_8 rfl rfl ?_
    refine X.getR (pc := 9) (b := (p0 + 2)) dX4_sumTies_9 fl_X4_15 rfl (fs_X4 hW hp0) (fp_X4_1 hW hp0) ?_
    refine X.iconst (pc := 12) dX4_sumTies_12 ⟨by decide, by decide⟩ ?_
    refine X.aload_n (pc := 13) (i := 0) 0 dX4_sumTies_13 rfl rfl ?_
    refine X.getR (pc := 14) (b := (p0 + 3)) dX4_sumTies_14 fl_X4_18 rfl (fs_X4 hW hp0) (fp_X4_2 hW hp0) ?_
    refine X.iconst (pc := 17) dX4_sumTies_17 ⟨by decide, by decide⟩ ?_
    refine X.bipush (pc := 18) (y := 8) dX4_sumTies_18 rfl ⟨by decide, by decide⟩ ?_
    refine X.copyl (pc := 20) dX4_sumTies_20 lk_X4_64 w_yn w_ys w_yi (fa_X4_1 hW hp0) (fa_X4_2 hW hp0) (by decide) (by decide) (Nat.le_of_ble_eq_true rfl) ?_
    refine X.aload_n (pc := 23) (i := 0) 0 dX4_sumTies_23 rfl rfl ?_
    refine X.getR (pc := 24) (b := (p0 + 1)) dX4_sumTies_24 fl_X4_9 rfl (fs_X4 hW hp0) (fp_X4_0 hW hp0) ?_
    refine X.iconst (pc := 27) dX4_sumTies_27 ⟨by decide, by decide⟩ ?_
    refine X.aload_n (pc := 28) (i := 0) 0 dX4_sumTies_28 rfl rfl ?_
    refine X.getR (pc := 29) (b := (p0 + 2)) dX4_sumTies_29 fl_X4_15 rfl (fs_X4 hW hp0) (fp_X4_1 hW hp0) ?_
    refine X.iconst (pc := 32) dX4_sumTies_32 ⟨by decide, by decide⟩ ?_
    refine X.bipush (pc := 33) (y := 8) dX4_sumTies_33 rfl ⟨by decide, by decide⟩ ?_
    refine X.copyl (pc := 35) dX4_sumTies_35 lk_X4_64 w_yn w_ys w_yi (fa_X4_0 hW hp0) (fa_X4_1 hW hp0) (by decide) (by decide) (Nat.le_of_ble_eq_true rfl) ?_
    refine X.iconst (pc := 38) dX4_sumTies_38 ⟨by decide, by decide⟩ ?_
    refine X.istore_n (pc := 39) (i := 2) (ls' := [(2, vI 0), (0, vR p0), (1, vI x1)]) dX4_sumTies_39 rfl (by decide) rfl ?_
    exact X.pick [1, 2, 0] rfl h

theorem g_X4_sumTies_40 {sh : List (Nat × Nat)} {ν : Nat → Nat → Option Nat} {μ : Nat → Nat → Int} {f s : Nat} {Q : xQ} (hW : WF sh ν f s) {p0 : Nat} (hp0 : isKnot p0) {x1 : Int} {x2 : Int}
    (h : ((((μ) p0 9) ≤ x2 → X mX4_sumTies 2 [(0, vR p0), (1, vI (w32 (x1 + 1)))] [] sh (ν) (μ) 0 0 Q) ∧ (x2 < ((μ) p0 9) → (0 ≤ x2 ∧ x2 < (40 : Nat)) ∧ (0 ≤ ((μ) (p0 + 6) (Int.toNat x2)) ∧ ((μ) (p0 + 6) (Int.toNat x2)) < (8 : Nat)) ∧ (0 ≤ x2 ∧ x2 < (40 : Nat)) ∧ (0 ≤ ((μ) (p0 + 8) (Int.toNat x2)) ∧ ((μ) (p0 + 8) (Int.toNat x2)) < (8 : Nat)) ∧ ((0 : Int) ≤ ((μ) (p0 + 2) (Int.toNat ((μ) (p0 + 6) (Int.toNat x2)))) ∧ (((μ) (p0 + 2) (Int.toNat ((μ) (p0 + 6) (Int.toNat x2)))) : Int) ≤ 1000000000000000000) ∧ ((0 : Int) ≤ ((μ) (p0 + 3) (Int.toNat ((μ) (p0 + 8) (Int.toNat x2)))) ∧ (((μ) (p0 + 3) (Int.toNat ((μ) (p0 + 8) (Int.toNat x2)))) : Int) ≤ 1000000000000000000) ∧ (0 ≤ ((μ) (p0 + 6) (Int.toNat x2)) ∧ ((μ) (p0 + 6) (Int.toNat x2)) < (8 : Nat)) ∧ X mX4_sumTies 40 [(0, vR p0), (1, vI x1), (2, vI (w32 (x2 + 1)))] [] sh (ν) (up μ (p0 + 2) (Int.toNat ((μ) (p0 + 6) (Int.toNat x2))) (min (((μ) (p0 + 2) (Int.toNat ((μ) (p0 + 6) (Int.toNat x2)))) + ((μ) (p0 + 3) (Int.toNat ((μ) (p0 + 8) (Int.toNat x2))))) 1000000000000000000)) 0 0 Q))) :
    X mX4_sumTies 40 [(0, vR p0), (1, vI x1), (2, vI x2)] [] sh ν μ 0 0 Q := by
  refine X.iload_n (pc := 40) (i := 2) 2 dX4_sumTies_40 rfl rfl ?_
  refine X.aload_n (pc := 41) (i := 0) 0 dX4_sumTies_41 rfl rfl ?_
  refine X.getI (pc := 42) dX4_sumTies_42 fl_X4_40 rfl (fs_X4 hW hp0) ?_
  refine X.icmp_ge (pc := 45) 87 dX4_sumTies_45 (by decide) ⟨fun q9 => ?_, fun q9 => ?_⟩
  · have h := h.1 q9
    refine X.iinc (pc := 87) (i := 1) (ls' := [(1, vI (w32 (x1 + 1))), (0, vR p0), (2, vI x2)]) 1 dX4_sumTies_87 rfl (by decide) rfl ?_
    refine X.goto (pc := 90) (tgt := 2) dX4_sumTies_90 (by decide) ?_
    exact X.pick [1, 0] rfl h
  · have h := h.2 q9
    refine X.aload_n (pc := 48) (i := 0) 0 dX4_sumTies_48 rfl rfl ?_
    refine X.getR (pc := 49) (b := (p0 + 6)) dX4_sumTies_49 fl_X4_28 rfl (fs_X4 hW hp0) (fp_X4_5 hW hp0) ?_
    refine X.iload_n (pc := 52) (i := 2) 2 dX4_sumTies_52 rfl rfl ?_
    obtain ⟨c1, h⟩ := h
    refine X.iaload (pc := 53) dX4_sumTies_53 (fa_X4_5 hW hp0) c1 ?_
    refine X.istore_n (pc := 54) (i := 3) (ls' := [(3, vI ((μ) (p0 + 6) (Int.toNat x2))), (0, vR p0), (1, vI x1), (2, vI x2)]) dX4_sumTies_54 rfl (by decide) rfl ?_
    refine X.aload_n (pc := 55) (i := 0) 1 dX4_sumTies_55 rfl rfl ?_
    refine X.getR (pc := 56) (b := (p0 + 2)) dX4_sumTies_56 fl_X4_15 rfl (fs_X4 hW hp0) (fp_X4_1 hW hp0) ?_
    refine X.iload_n (pc := 59) (i := 3) 0 dX4_sumTies_59 rfl rfl ?_
    refine X.aload_n (pc := 60) (i := 0) 1 dX4_sumTies_60 rfl rfl ?_
    refine X.getR (pc := 61) (b := (p0 + 2)) dX4_sumTies_61 fl_X4_15 rfl (fs_X4 hW hp0) (fp_X4_1 hW hp0) ?_
    refine X.iload_n (pc := 64) (i := 3) 0 dX4_sumTies_64 rfl rfl ?_
    obtain ⟨c2, h⟩ := h
    refine X.laload (pc := 65) dX4_sumTies_65 (fa_X4_1 hW hp0) c2 ?_
    refine X.aload_n (pc := 66) (i := 0) 1 dX4_sumTies_66 rfl rfl ?_
    refine X.getR (pc := 67) (b := (p0 + 3)) dX4_sumTies_67 fl_X4_18 rfl (fs_X4 hW hp0) (fp_X4_2 hW hp0) ?_
    refine X.aload_n (pc := 70) (i := 0) 1 dX4_sumTies_70 rfl rfl ?_
    refine X.getR (pc := 71) (b := (p0 + 8)) dX4_sumTies_71 fl_X4_34 rfl (fs_X4 hW hp0) (fp_X4_7 hW hp0) ?_
    refine X.iload_n (pc := 74) (i := 2) 3 dX4_sumTies_74 rfl rfl ?_
    obtain ⟨c3, h⟩ := h
    refine X.iaload (pc := 75) dX4_sumTies_75 (fa_X4_7 hW hp0) c3 ?_
    obtain ⟨c4, h⟩ := h
    refine X.laload (pc := 76) dX4_sumTies_76 (fa_X4_2 hW hp0) c4 ?_
    refine X.pick [1, 2, 3] rfl ?_
    obtain ⟨c5, h⟩ := h
    obtain ⟨c6, h⟩ := h
    refine X.callS (pc := 77) (vs := [vL ((μ) (p0 + 2) (Int.toNat ((μ) (p0 + 6) (Int.toNat x2)))), vL ((μ) (p0 + 3) (Int.toNat ((μ) (p0 + 8) (Int.toNat x2))))]) (st := [vI ((μ) (p0 + 6) (Int.toNat x2)), vR (p0 + 2)]) dX4_sumTies_77 rfl okM_X4_plus rfl lk_X4_60 stat_X4_plus ⟨⟨by decide, by decide⟩, ⟨by decide, by decide⟩, Nat.le_of_ble_eq_true rfl⟩ (Nat.le_of_ble_eq_true rfl) (c_X4_plus hW c5 c6 ?_)
    refine X.nrm (pc' := 80) (ls' := [(0, vR p0), (1, vI x1), (2, vI x2)]) (st' := [vL (min (((μ) (p0 + 2) (Int.toNat ((μ) (p0 + 6) (Int.toNat x2)))) + ((μ) (p0 + 3) (Int.toNat ((μ) (p0 + 8) (Int.toNat x2))))) 1000000000000000000), vI ((μ) (p0 + 6) (Int.toNat x2)), vR (p0 + 2)]) (k' := 0) (n' := 0) rfl rfl rfl rfl rfl ?_
    obtain ⟨c7, h⟩ := h
    refine X.lastore (pc := 80) dX4_sumTies_80 (fa_X4_1 hW hp0) c7 ?_
    refine X.iinc (pc := 81) (i := 2) (ls' := [(2, vI (w32 (x2 + 1))), (0, vR p0), (1, vI x1)]) 2 dX4_sumTies_81 rfl (by decide) rfl ?_
    refine X.goto (pc := 84) (tgt := 40) dX4_sumTies_84 (by decide) ?_
    exact X.pick [1, 2, 0] rfl h

theorem g_X7_begin_0 {sh : List (Nat × Nat)} {ν : Nat → Nat → Option Nat} {μ : Nat → Nat → Int} {f s : Nat} {Q : xQ} (hW : WF sh ν f s) {p0 : Nat} (hp0 : isRule p0) {x1 : Int} {x2 : Int} {x3 : Int}
    (h : Q none sh (ν) (up (up (up (up (up (up (up (up (up (up (up μ p0 1 x1) p0 2 x2) p0 3 x3) p0 4 (-9)) (p0 + 1) 3 0) (p0 + 1) 4 0) (p0 + 1) 5 0) p0 5 1) p0 6 20) p0 7 1) p0 8 20)) :
    X mX7_begin 0 [(0, vR p0), (1, vI x1), (2, vI x2), (3, vI x3)] [] sh ν μ 0 0 Q := by
  refine X.aload_n (pc := 0) (i := 0) 0 dX7_begin_0 rfl rfl ?_
  refine X.iload_n (pc := 1) (i := 1) 1 dX7_begin_1 rfl rfl ?_
  refine X.putI (pc := 2) dX7_begin_2 fl_X7_18 rfl (fun h9 => by cases h9) (fs_X7 hW hp0) (Or.inl rfl) ?_
  refine X.aload_n (pc := 5) (i := 0) 0 dX7_begin_5 rfl rfl ?_
  refine X.iload_n (pc := 6) (i := 2) 2 dX7_begin_6 rfl rfl ?_
  refine X.putI (pc := 7) dX7_begin_7 fl_X7_22 rfl (fun h9 => by cases h9) (fs_X7 hW hp0) (Or.inl rfl) ?_
  refine X.aload_n (pc := 10) (i := 0) 0 dX7_begin_10 rfl rfl ?_
  refine X.iload_n (pc := 11) (i := 3) 3 dX7_begin_11 rfl rfl ?_
  refine X.putI (pc := 12) dX7_begin_12 fl_X7_25 rfl (fun h9 => by cases h9) (fs_X7 hW hp0) (Or.inl rfl) ?_
  refine X.aload_n (pc := 15) (i := 0) 0 dX7_begin_15 rfl rfl ?_
  refine X.bipush (pc := 16) (y := -9) dX7_begin_16 rfl ⟨by decide, by decide⟩ ?_
  refine X.putI (pc := 18) dX7_begin_18 fl_X7_28 rfl (fun h9 => by cases h9) (fs_X7 hW hp0) (Or.inl rfl) ?_
  refine X.aload_n (pc := 21) (i := 0) 0 dX7_begin_21 rfl rfl ?_
  refine X.getR (pc := 22) (b := (p0 + 1)) dX7_begin_22 fl_X7_12 rfl (fs_X7 hW hp0) (fp_X7_0 hW hp0) ?_
  refine X.pick [0] rfl ?_
  refine X.callV (pc := 25) (vs := []) (st := []) dX7_begin_25 rfl okM_X6_empty rfl lk_X7_43 inst_X6_empty sel_X6_empty (fs_X6 hW (mk_rule_parts hp0)) rfl ⟨⟨by decide, by decide⟩, ⟨by decide, by decide⟩, Nat.le_of_ble_eq_true rfl⟩ (Nat.le_of_ble_eq_true rfl) ?_
  refine X.nrm (pc' := 0) (ls' := [(0, vR (p0 + 1))]) (st' := []) (k' := 0) (n' := 0) rfl rfl rfl rfl rfl ?_
  refine X.aload_n (pc := 0) (i := 0) 0 dX6_empty_0 rfl rfl ?_
  refine X.iconst (pc := 1) dX6_empty_1 ⟨by decide, by decide⟩ ?_
  refine X.putI (pc := 2) dX6_empty_2 fl_X6_21 rfl (fun h9 => by cases h9) (fs_X6 hW (mk_rule_parts hp0)) (Or.inl rfl) ?_
  refine X.aload_n (pc := 5) (i := 0) 0 dX6_empty_5 rfl rfl ?_
  refine X.iconst (pc := 6) dX6_empty_6 ⟨by decide, by decide⟩ ?_
  refine X.putI (pc := 7) dX6_empty_7 fl_X6_25 rfl (fun h9 => by cases h9) (fs_X6 hW (mk_rule_parts hp0)) (Or.inl rfl) ?_
  refine X.aload_n (pc := 10) (i := 0) 0 dX6_empty_10 rfl rfl ?_
  refine X.iconst (pc := 11) dX6_empty_11 ⟨by decide, by decide⟩ ?_
  refine X.putI (pc := 12) dX6_empty_12 fl_X6_28 rfl (fun h9 => by cases h9) (fs_X6 hW (mk_rule_parts hp0)) (Or.inl rfl) ?_
  refine X.vret (pc := 15) dX6_empty_15 rfl (Nat.le_of_ble_eq_true rfl) (Nat.le_of_ble_eq_true rfl) ?_
  refine X.nrm (pc' := 28) (ls' := [(0, vR p0)]) (st' := []) (k' := 0) (n' := 0) rfl rfl rfl rfl rfl ?_
  refine X.aload_n (pc := 28) (i := 0) 0 dX7_begin_28 rfl rfl ?_
  refine X.iconst (pc := 29) dX7_begin_29 ⟨by decide, by decide⟩ ?_
  refine X.iconst (pc := 30) dX7_begin_30 ⟨by decide, by decide⟩ ?_
  refine X.bipush (pc := 31) (y := 20) dX7_begin_31 rfl ⟨by decide, by decide⟩ ?_
  refine X.callV (pc := 33) (vs := [vI 0, vI 1, vI 20]) (st := []) dX7_begin_33 rfl okM_X7_limit rfl lk_X7_46 inst_X7_limit sel_X7_limit (fs_X7 hW hp0) rfl ⟨⟨by decide, by decide⟩, ⟨by decide, by decide⟩, Nat.le_of_ble_eq_true rfl⟩ (Nat.le_of_ble_eq_true rfl) ?_
  refine X.nrm (pc' := 0) (ls' := [(0, vR p0), (1, vI 0), (2, vI 1), (3, vI 20)]) (st' := []) (k' := 0) (n' := 0) rfl rfl rfl rfl rfl ?_
  refine X.iload_n (pc := 0) (i := 1) 1 dX7_limit_0 rfl rfl ?_
  refine X.if_eq (pc := 1) 17 dX7_limit_1 (by decide) ⟨fun _ => ?_, fun q9 => absurd q9 (by decide)⟩
  refine X.aload_n (pc := 17) (i := 0) 0 dX7_limit_17 rfl rfl ?_
  refine X.iload_n (pc := 18) (i := 2) 2 dX7_limit_18 rfl rfl ?_
  refine X.putI (pc := 19) dX7_limit_19 fl_X7_31 rfl (fun h9 => by cases h9) (fs_X7 hW hp0) (Or.inl rfl) ?_
  refine X.aload_n (pc := 22) (i := 0) 0 dX7_limit_22 rfl rfl ?_
  refine X.iload_n (pc := 23) (i := 3) 3 dX7_limit_23 rfl rfl ?_
  refine X.putI (pc := 24) dX7_limit_24 fl_X7_34 rfl (fun h9 => by cases h9) (fs_X7 hW hp0) (Or.inl rfl) ?_
  refine X.vret (pc := 27) dX7_limit_27 rfl (Nat.le_of_ble_eq_true rfl) (Nat.le_of_ble_eq_true rfl) ?_
  refine X.nrm (pc' := 36) (ls' := [(0, vR p0)]) (st' := []) (k' := 0) (n' := 0) rfl rfl rfl rfl rfl ?_
  refine X.aload_n (pc := 36) (i := 0) 0 dX7_begin_36 rfl rfl ?_
  refine X.iconst (pc := 37) dX7_begin_37 ⟨by decide, by decide⟩ ?_
  refine X.iconst (pc := 38) dX7_begin_38 ⟨by decide, by decide⟩ ?_
  refine X.bipush (pc := 39) (y := 20) dX7_begin_39 rfl ⟨by decide, by decide⟩ ?_
  refine X.pick [] rfl ?_
  refine X.callV (pc := 41) (vs := [vI 1, vI 1, vI 20]) (st := []) dX7_begin_41 rfl okM_X7_limit rfl lk_X7_46 inst_X7_limit sel_X7_limit (fs_X7 hW hp0) rfl ⟨⟨by decide, by decide⟩, ⟨by decide, by decide⟩, Nat.le_of_ble_eq_true rfl⟩ (Nat.le_of_ble_eq_true rfl) ?_
  refine X.nrm (pc' := 0) (ls' := [(0, vR p0), (1, vI 1), (2, vI 1), (3, vI 20)]) (st' := []) (k' := 0) (n' := 0) rfl rfl rfl rfl rfl ?_
  refine X.iload_n (pc := 0) (i := 1) 1 dX7_limit_0 rfl rfl ?_
  refine X.if_eq (pc := 1) 17 dX7_limit_1 (by decide) ⟨fun q9 => absurd q9 (by decide), fun _ => ?_⟩
  refine X.aload_n (pc := 4) (i := 0) 0 dX7_limit_4 rfl rfl ?_
  refine X.iload_n (pc := 5) (i := 2) 2 dX7_limit_5 rfl rfl ?_
  refine X.putI (pc := 6) dX7_limit_6 fl_X7_37 rfl (fun h9 => by cases h9) (fs_X7 hW hp0) (Or.inl rfl) ?_
  refine X.aload_n (pc := 9) (i := 0) 0 dX7_limit_9 rfl rfl ?_
  refine X.iload_n (pc := 10) (i := 3) 3 dX7_limit_10 rfl rfl ?_
  refine X.putI (pc := 11) dX7_limit_11 fl_X7_40 rfl (fun h9 => by cases h9) (fs_X7 hW hp0) (Or.inl rfl) ?_
  refine X.goto (pc := 14) (tgt := 27) dX7_limit_14 (by decide) ?_
  refine X.vret (pc := 27) dX7_limit_27 rfl (Nat.le_of_ble_eq_true rfl) (Nat.le_of_ble_eq_true rfl) ?_
  refine X.nrm (pc' := 44) (ls' := []) (st' := []) (k' := 0) (n' := 0) rfl rfl rfl rfl rfl ?_
  exact X.vret (pc := 44) dX7_begin_44 rfl (Nat.le_of_ble_eq_true rfl) (Nat.le_of_ble_eq_true rfl) h

theorem g_X7_admits_0 {sh : List (Nat × Nat)} {ν : Nat → Nat → Option Nat} {μ : Nat → Nat → Int} {f s : Nat} {Q : xQ} (hW : WF sh ν f s) {p0 : Nat} (hp0 : isRule p0) {x1 : Int} {x2 : Int}
    (h : ((¬ (((μ) p0 5) ≤ x1 ∧ x1 ≤ ((μ) p0 6)) → Q (some (vI 0)) sh (ν) (μ)) ∧ ((((μ) p0 5) ≤ x1 ∧ x1 ≤ ((μ) p0 6)) → ((¬ (((μ) p0 7) ≤ x2 ∧ x2 ≤ ((μ) p0 8)) → Q (some (vI 0)) sh (ν) (μ)) ∧ ((((μ) p0 7) ≤ x2 ∧ x2 ≤ ((μ) p0 8)) → Q (some (vI 1)) sh (ν) (μ)))))) :
    X mX7_admits 0 [(0, vR p0), (1, vI x1), (2, vI x2)] [] sh ν μ 0 0 Q := by
  refine X.iload_n (pc := 0) (i := 1) 1 dX7_admits_0 rfl rfl ?_
  refine X.aload_n (pc := 1) (i := 0) 0 dX7_admits_1 rfl rfl ?_
  refine X.getI (pc := 2) dX7_admits_2 fl_X7_31 rfl (fs_X7 hW hp0) ?_
  refine X.aload_n (pc := 5) (i := 0) 0 dX7_admits_5 rfl rfl ?_
  refine X.getI (pc := 6) dX7_admits_6 fl_X7_34 rfl (fs_X7 hW hp0) ?_
  refine X.pick [0, 2] rfl ?_
  refine X.callSN (pc := 9) (vs := [vI x1, vI ((μ) p0 5), vI ((μ) p0 6)]) (st := []) dX7_admits_9 rfl okM_X9_isWithin rfl nk_X7_50 stat_X9_isWithin ⟨⟨by decide, by decide⟩, ⟨by decide, by decide⟩, Nat.le_of_ble_eq_true rfl⟩ (Nat.le_of_ble_eq_true rfl) (c_X9_isWithin hW ?_)
  refine X.nrm (pc' := 12) (ls' := [(0, vR p0), (2, vI x2)]) (st' := [vI (bI (((μ) p0 5) ≤ x1 ∧ x1 ≤ ((μ) p0 6)))]) (k' := 0) (n' := 0) rfl rfl rfl rfl rfl ?_
  refine X.if_eq (pc := 12) 34 dX7_admits_12 (by decide) ⟨fun q9 => ?_, fun q9 => ?_⟩
  · have h := h.1 (bI_eq.mp q9)
    refine X.iconst (pc := 34) dX7_admits_34 ⟨by decide, by decide⟩ ?_
    exact X.zret (pc := 35) dX7_admits_35 rfl (by decide) (Nat.le_of_ble_eq_true rfl) (Nat.le_of_ble_eq_true rfl) h
  · have h := h.2 (bI_ne.mp q9)
    refine X.iload_n (pc := 15) (i := 2) 1 dX7_admits_15 rfl rfl ?_
    refine X.aload_n (pc := 16) (i := 0) 0 dX7_admits_16 rfl rfl ?_
    refine X.getI (pc := 17) dX7_admits_17 fl_X7_37 rfl (fs_X7 hW hp0) ?_
    refine X.aload_n (pc := 20) (i := 0) 0 dX7_admits_20 rfl rfl ?_
    refine X.getI (pc := 21) dX7_admits_21 fl_X7_40 rfl (fs_X7 hW hp0) ?_
    refine X.pick [] rfl ?_
    refine X.callSN (pc := 24) (vs := [vI x2, vI ((μ) p0 7), vI ((μ) p0 8)]) (st := []) dX7_admits_24 rfl okM_X9_isWithin rfl nk_X7_50 stat_X9_isWithin ⟨⟨by decide, by decide⟩, ⟨by decide, by decide⟩, Nat.le_of_ble_eq_true rfl⟩ (Nat.le_of_ble_eq_true rfl) (c_X9_isWithin hW ?_)
    refine X.nrm (pc' := 27) (ls' := []) (st' := [vI (bI (((μ) p0 7) ≤ x2 ∧ x2 ≤ ((μ) p0 8)))]) (k' := 0) (n' := 0) rfl rfl rfl rfl rfl ?_
    refine X.if_eq (pc := 27) 34 dX7_admits_27 (by decide) ⟨fun q9 => ?_, fun q9 => ?_⟩
    · have h := h.1 (bI_eq.mp q9)
      refine X.iconst (pc := 34) dX7_admits_34 ⟨by decide, by decide⟩ ?_
      exact X.zret (pc := 35) dX7_admits_35 rfl (by decide) (Nat.le_of_ble_eq_true rfl) (Nat.le_of_ble_eq_true rfl) h
    · have h := h.2 (bI_ne.mp q9)
      refine X.iconst (pc := 30) dX7_admits_30 ⟨by decide, by decide⟩ ?_
      refine X.goto (pc := 31) (tgt := 35) dX7_admits_31 (by decide) ?_
      exact X.zret (pc := 35) dX7_admits_35 rfl (by decide) (Nat.le_of_ble_eq_true rfl) (Nat.le_of_ble_eq_true rfl) h

theorem g_X9_only_0 {sh : List (Nat × Nat)} {ν : Nat → Nat → Option Nat} {μ : Nat → Nat → Int} {f s : Nat} {Q : xQ} (hW : WF sh ν f s) {x1 : Int} {x2 : Int} {x3 : Int} {x4 : Int}
    (h : (((0 ≤ x1 ∧ x1 < (μ) 1 2) → ((x3 < 1 → Q (some (vI (-2))) sh (ν) (μ)) ∧ (1 ≤ x3 → ((20 < x4 → Q (some (vI (-2))) sh (ν) (μ)) ∧ (x4 ≤ 20 → ((x3 ≤ x4 → (0 ≤ x1 ∧ x1 < (40 : Nat)) ∧ ((x2 = 0 → Q (some (vI 1)) sh (ν) (up (up (up (up μ (7 + 5 * (Int.toNat x1)) 5 x3) (7 + 5 * (Int.toNat x1)) 6 x4) 213 13 1) 231 13 1)) ∧ (x2 ≠ 0 → Q (some (vI 1)) sh (ν) (up (up (up (up μ (7 + 5 * (Int.toNat x1)) 7 x3) (7 + 5 * (Int.toNat x1)) 8 x4) 213 13 1) 231 13 1)))) ∧ (x4 < x3 → Q (some (vI (-2))) sh (ν) (μ)))))))) ∧ (¬ (0 ≤ x1 ∧ x1 < (μ) 1 2) → Q (some (vI (-1))) sh (ν) (μ)))) :
    X mX9_only 0 [(0, vR 0), (1, vI x1), (2, vI x2), (3, vI x3), (4, vI x4)] [] sh ν μ 0 0 Q := by
  refine X.aload_n (pc := 0) (i := 0) 0 dX9_only_0 rfl rfl ?_
  refine X.getR (pc := 1) (b := 1) dX9_only_1 fl_X9_12 rfl (fs_X9 hW) (fp_X9_0 hW) ?_
  refine X.iload_n (pc := 4) (i := 1) 1 dX9_only_4 rfl rfl ?_
  refine X.callV (pc := 5) (vs := [vI x1]) (st := []) dX9_only_5 rfl okM_X3_has rfl lk_X9_108 inst_X3_has sel_X3_has (fs_X3 hW) rfl ⟨⟨by decide, by decide⟩, ⟨by decide, by decide⟩, Nat.le_of_ble_eq_true rfl⟩ (Nat.le_of_ble_eq_true rfl) (c_X3_has hW ?_)
  refine X.nrm (pc' := 8) (ls' := [(0, vR 0), (1, vI x1), (2, vI x2), (3, vI x3), (4, vI x4)]) (st' := [vI (bI (0 ≤ x1 ∧ x1 < (μ) 1 2))]) (k' := 0) (n' := 0) rfl rfl rfl rfl rfl ?_
  refine X.if_ne (pc := 8) 13 dX9_only_8 (by decide) ⟨fun q9 => ?_, fun q9 => ?_⟩
  · have h := h.1 (bI_ne.mp q9)
    refine X.iload_n (pc := 13) (i := 3) 3 dX9_only_13 rfl rfl ?_
    refine X.iconst (pc := 14) dX9_only_14 ⟨by decide, by decide⟩ ?_
    refine X.icmp_lt (pc := 15) 31 dX9_only_15 (by decide) ⟨fun q9 => ?_, fun q9 => ?_⟩
    · have h := h.1 q9
      refine X.bipush (pc := 31) (y := -2) dX9_only_31 rfl ⟨by decide, by decide⟩ ?_
      exact X.iret (pc := 33) dX9_only_33 rfl (Nat.le_of_ble_eq_true rfl) (Nat.le_of_ble_eq_true rfl) h
    · have h := h.2 q9
      refine X.iload (pc := 18) (i := 4) 4 dX9_only_18 rfl ?_
      refine X.bipush (pc := 20) (y := 20) dX9_only_20 rfl ⟨by decide, by decide⟩ ?_
      refine X.icmp_gt (pc := 22) 31 dX9_only_22 (by decide) ⟨fun q9 => ?_, fun q9 => ?_⟩
      · have h := h.1 q9
        refine X.bipush (pc := 31) (y := -2) dX9_only_31 rfl ⟨by decide, by decide⟩ ?_
        exact X.iret (pc := 33) dX9_only_33 rfl (Nat.le_of_ble_eq_true rfl) (Nat.le_of_ble_eq_true rfl) h
      · have h := h.2 q9
        refine X.iload_n (pc := 25) (i := 3) 3 dX9_only_25 rfl rfl ?_
        refine X.iload (pc := 26) (i := 4) 4 dX9_only_26 rfl ?_
        refine X.icmp_le (pc := 28) 34 dX9_only_28 (by decide) ⟨fun q9 => ?_, fun q9 => ?_⟩
        · have h := h.1 q9
          refine X.aload_n (pc := 34) (i := 0) 0 dX9_only_34 rfl rfl ?_
          refine X.getR (pc := 35) (b := 1) dX9_only_35 fl_X9_12 rfl (fs_X9 hW) (fp_X9_0 hW) ?_
          refine X.getR (pc := 38) (b := 2) dX9_only_38 fl_X9_111 rfl (fs_X3 hW) (fp_X3_0 hW) ?_
          refine X.iload_n (pc := 41) (i := 1) 1 dX9_only_41 rfl rfl ?_
          obtain ⟨c1, h⟩ := h
          refine X.aaload (pc := 42) dX9_only_42 (fa_X3_0 hW) (Or.inl rfl) c1 (fe_rules hW c1) ?_
          refine X.iload_n (pc := 43) (i := 2) 2 dX9_only_43 rfl rfl ?_
          refine X.iload_n (pc := 44) (i := 3) 3 dX9_only_44 rfl rfl ?_
          refine X.iload (pc := 45) (i := 4) 4 dX9_only_45 rfl ?_
          refine X.pick [0] rfl ?_
          refine X.callV (pc := 47) (vs := [vI x2, vI x3, vI x4]) (st := []) dX9_only_47 rfl okM_X7_limit rfl lk_X9_115 inst_X7_limit sel_X7_limit (fs_X7 hW (mk_rules c1)) rfl ⟨⟨by decide, by decide⟩, ⟨by decide, by decide⟩, Nat.le_of_ble_eq_true rfl⟩ (Nat.le_of_ble_eq_true rfl) ?_
          refine X.nrm (pc' := 0) (ls' := [(0, vR (7 + 5 * (Int.toNat x1))), (1, vI x2), (2, vI x3), (3, vI x4)]) (st' := []) (k' := 0) (n' := 0) rfl rfl rfl rfl rfl ?_
          refine X.iload_n (pc := 0) (i := 1) 1 dX7_limit_0 rfl rfl ?_
          refine X.if_eq (pc := 1) 17 dX7_limit_1 (by decide) ⟨fun q9 => ?_, fun q9 => ?_⟩
          · have h := h.1 q9
            refine X.aload_n (pc := 17) (i := 0) 0 dX7_limit_17 rfl rfl ?_
            refine X.iload_n (pc := 18) (i := 2) 2 dX7_limit_18 rfl rfl ?_
            refine X.putI (pc := 19) dX7_limit_19 fl_X7_31 rfl (fun h9 => by cases h9) (fs_X7 hW (mk_rules c1)) (Or.inl rfl) ?_
            refine X.aload_n (pc := 22) (i := 0) 0 dX7_limit_22 rfl rfl ?_
            refine X.iload_n (pc := 23) (i := 3) 3 dX7_limit_23 rfl rfl ?_
            refine X.putI (pc := 24) dX7_limit_24 fl_X7_34 rfl (fun h9 => by cases h9) (fs_X7 hW (mk_rules c1)) (Or.inl rfl) ?_
            refine X.vret (pc := 27) dX7_limit_27 rfl (Nat.le_of_ble_eq_true rfl) (Nat.le_of_ble_eq_true rfl) ?_
            refine X.nrm (pc' := 50) (ls' := [(0, vR 0)]) (st' := []) (k' := 0) (n' := 0) rfl rfl rfl rfl rfl ?_
            refine X.aload_n (pc := 50) (i := 0) 0 dX9_only_50 rfl rfl ?_
            refine X.pick [] rfl ?_
            refine X.callV (pc := 51) (vs := []) (st := []) dX9_only_51 rfl okM_X9_forgetParses rfl lk_X9_80 inst_X9_forgetParses sel_X9_forgetParses (fs_X9 hW) rfl ⟨⟨by decide, by decide⟩, ⟨by decide, by decide⟩, Nat.le_of_ble_eq_true rfl⟩ (Nat.le_of_ble_eq_true rfl) ?_
            refine X.nrm (pc' := 0) (ls' := [(0, vR 0)]) (st' := []) (k' := 0) (n' := 0) rfl rfl rfl rfl rfl ?_
            refine X.aload_n (pc := 0) (i := 0) 0 dX9_forgetParses_0 rfl rfl ?_
            refine X.getR (pc := 1) (b := 213) dX9_forgetParses_1 fl_X9_35 rfl (fs_X9 hW) (fp_X9_3 hW) ?_
            refine X.iconst (pc := 4) dX9_forgetParses_4 ⟨by decide, by decide⟩ ?_
            refine X.putI (pc := 5) dX9_forgetParses_5 fl_X9_185 rfl (fun h9 => by cases h9) (fs_X1 hW mk_free) (Or.inr (Or.inr rfl)) ?_
            refine X.aload_n (pc := 8) (i := 0) 0 dX9_forgetParses_8 rfl rfl ?_
            refine X.getR (pc := 9) (b := 231) dX9_forgetParses_9 fl_X9_39 rfl (fs_X9 hW) (fp_X9_4 hW) ?_
            refine X.iconst (pc := 12) dX9_forgetParses_12 ⟨by decide, by decide⟩ ?_
            refine X.putI (pc := 13) dX9_forgetParses_13 fl_X9_185 rfl (fun h9 => by cases h9) (fs_X1 hW mk_bound) (Or.inr (Or.inr rfl)) ?_
            refine X.vret (pc := 16) dX9_forgetParses_16 rfl (Nat.le_of_ble_eq_true rfl) (Nat.le_of_ble_eq_true rfl) ?_
            refine X.nrm (pc' := 54) (ls' := []) (st' := []) (k' := 0) (n' := 0) rfl rfl rfl rfl rfl ?_
            refine X.iconst (pc := 54) dX9_only_54 ⟨by decide, by decide⟩ ?_
            exact X.iret (pc := 55) dX9_only_55 rfl (Nat.le_of_ble_eq_true rfl) (Nat.le_of_ble_eq_true rfl) h
          · have h := h.2 q9
            refine X.aload_n (pc := 4) (i := 0) 0 dX7_limit_4 rfl rfl ?_
            refine X.iload_n (pc := 5) (i := 2) 2 dX7_limit_5 rfl rfl ?_
            refine X.putI (pc := 6) dX7_limit_6 fl_X7_37 rfl (fun h9 => by cases h9) (fs_X7 hW (mk_rules c1)) (Or.inl rfl) ?_
            refine X.aload_n (pc := 9) (i := 0) 0 dX7_limit_9 rfl rfl ?_
            refine X.iload_n (pc := 10) (i := 3) 3 dX7_limit_10 rfl rfl ?_
            refine X.putI (pc := 11) dX7_limit_11 fl_X7_40 rfl (fun h9 => by cases h9) (fs_X7 hW (mk_rules c1)) (Or.inl rfl) ?_
            refine X.goto (pc := 14) (tgt := 27) dX7_limit_14 (by decide) ?_
            refine X.vret (pc := 27) dX7_limit_27 rfl (Nat.le_of_ble_eq_true rfl) (Nat.le_of_ble_eq_true rfl) ?_
            refine X.nrm (pc' := 50) (ls' := [(0, vR 0)]) (st' := []) (k' := 0) (n' := 0) rfl rfl rfl rfl rfl ?_
            refine X.aload_n (pc := 50) (i := 0) 0 dX9_only_50 rfl rfl ?_
            refine X.pick [] rfl ?_
            refine X.callV (pc := 51) (vs := []) (st := []) dX9_only_51 rfl okM_X9_forgetParses rfl lk_X9_80 inst_X9_forgetParses sel_X9_forgetParses (fs_X9 hW) rfl ⟨⟨by decide, by decide⟩, ⟨by decide, by decide⟩, Nat.le_of_ble_eq_true rfl⟩ (Nat.le_of_ble_eq_true rfl) ?_
            refine X.nrm (pc' := 0) (ls' := [(0, vR 0)]) (st' := []) (k' := 0) (n' := 0) rfl rfl rfl rfl rfl ?_
            refine X.aload_n (pc := 0) (i := 0) 0 dX9_forgetParses_0 rfl rfl ?_
            refine X.getR (pc := 1) (b := 213) dX9_forgetParses_1 fl_X9_35 rfl (fs_X9 hW) (fp_X9_3 hW) ?_
            refine X.iconst (pc := 4) dX9_forgetParses_4 ⟨by decide, by decide⟩ ?_
            refine X.putI (pc := 5) dX9_forgetParses_5 fl_X9_185 rfl (fun h9 => by cases h9) (fs_X1 hW mk_free) (Or.inr (Or.inr rfl)) ?_
            refine X.aload_n (pc := 8) (i := 0) 0 dX9_forgetParses_8 rfl rfl ?_
            refine X.getR (pc := 9) (b := 231) dX9_forgetParses_9 fl_X9_39 rfl (fs_X9 hW) (fp_X9_4 hW) ?_
            refine X.iconst (pc := 12) dX9_forgetParses_12 ⟨by decide, by decide⟩ ?_
            refine X.putI (pc := 13) dX9_forgetParses_13 fl_X9_185 rfl (fun h9 => by cases h9) (fs_X1 hW mk_bound) (Or.inr (Or.inr rfl)) ?_
            refine X.vret (pc := 16) dX9_forgetParses_16 rfl (Nat.le_of_ble_eq_true rfl) (Nat.le_of_ble_eq_true rfl) ?_
            refine X.nrm (pc' := 54) (ls' := []) (st' := []) (k' := 0) (n' := 0) rfl rfl rfl rfl rfl ?_
            refine X.iconst (pc := 54) dX9_only_54 ⟨by decide, by decide⟩ ?_
            exact X.iret (pc := 55) dX9_only_55 rfl (Nat.le_of_ble_eq_true rfl) (Nat.le_of_ble_eq_true rfl) h
        · have h := h.2 q9
          refine X.bipush (pc := 31) (y := -2) dX9_only_31 rfl ⟨by decide, by decide⟩ ?_
          exact X.iret (pc := 33) dX9_only_33 rfl (Nat.le_of_ble_eq_true rfl) (Nat.le_of_ble_eq_true rfl) h
  · have h := h.2 (bI_eq.mp q9)
    refine X.iconst (pc := 11) dX9_only_11 ⟨by decide, by decide⟩ ?_
    exact X.iret (pc := 12) dX9_only_12 rfl (Nat.le_of_ble_eq_true rfl) (Nat.le_of_ble_eq_true rfl) h

theorem g_X9_clear_0 {sh : List (Nat × Nat)} {ν : Nat → Nat → Option Nat} {μ : Nat → Nat → Int} {f s : Nat} {Q : xQ} (hW : WF sh ν f s) 
    (h : Q (some (vI ((μ) 1 2))) sh (ν) (up (up (up (up (up (up (up (up (up (up μ 1 2 0) 3 3 0) 3 4 0) 3 5 0) f 2 0) f 3 0) f 4 0) f 5 0) 213 13 1) 231 13 1)) :
    X mX9_clear 0 [(0, vR 0)] [] sh ν μ 0 0 Q := by
  refine X.aload_n (pc := 0) (i := 0) 0 dX9_clear_0 rfl rfl ?_
  refine X.getR (pc := 1) (b := 1) dX9_clear_1 fl_X9_12 rfl (fs_X9 hW) (fp_X9_0 hW) ?_
  refine X.getI (pc := 4) dX9_clear_4 fl_X9_121 rfl (fs_X3 hW) ?_
  refine X.istore_n (pc := 7) (i := 1) (ls' := [(1, vI ((μ) 1 2)), (0, vR 0)]) dX9_clear_7 rfl (by decide) rfl ?_
  refine X.aload_n (pc := 8) (i := 0) 1 dX9_clear_8 rfl rfl ?_
  refine X.getR (pc := 9) (b := 1) dX9_clear_9 fl_X9_12 rfl (fs_X9 hW) (fp_X9_0 hW) ?_
  refine X.pick [1, 0] rfl ?_
  refine X.callV (pc := 12) (vs := []) (st := []) dX9_clear_12 rfl okM_X3_empty rfl lk_X9_122 inst_X3_empty sel_X3_empty (fs_X3 hW) rfl ⟨⟨by decide, by decide⟩, ⟨by decide, by decide⟩, Nat.le_of_ble_eq_true rfl⟩ (Nat.le_of_ble_eq_true rfl) ?_
  refine X.nrm (pc' := 0) (ls' := [(0, vR 1)]) (st' := []) (k' := 0) (n' := 0) rfl rfl rfl rfl rfl ?_
  refine X.aload_n (pc := 0) (i := 0) 0 dX3_empty_0 rfl rfl ?_
  refine X.iconst (pc := 1) dX3_empty_1 ⟨by decide, by decide⟩ ?_
  refine X.putI (pc := 2) dX3_empty_2 fl_X3_24 rfl (fun h9 => by cases h9) (fs_X3 hW) (Or.inl rfl) ?_
  refine X.aload_n (pc := 5) (i := 0) 0 dX3_empty_5 rfl rfl ?_
  refine X.getR (pc := 6) (b := 3) dX3_empty_6 fl_X3_20 rfl (fs_X3 hW) (fp_X3_1 hW) ?_
  refine X.pick [] rfl ?_
  refine X.callV (pc := 9) (vs := []) (st := []) dX3_empty_9 rfl okM_X6_empty rfl lk_X3_29 inst_X6_empty sel_X6_empty (fs_X6 hW mk_coll) rfl ⟨⟨by decide, by decide⟩, ⟨by decide, by decide⟩, Nat.le_of_ble_eq_true rfl⟩ (Nat.le_of_ble_eq_true rfl) ?_
  refine X.nrm (pc' := 0) (ls' := [(0, vR 3)]) (st' := []) (k' := 0) (n' := 0) rfl rfl rfl rfl rfl ?_
  refine X.aload_n (pc := 0) (i := 0) 0 dX6_empty_0 rfl rfl ?_
  refine X.iconst (pc := 1) dX6_empty_1 ⟨by decide, by decide⟩ ?_
  refine X.putI (pc := 2) dX6_empty_2 fl_X6_21 rfl (fun h9 => by cases h9) (fs_X6 hW mk_coll) (Or.inl rfl) ?_
  refine X.aload_n (pc := 5) (i := 0) 0 dX6_empty_5 rfl rfl ?_
  refine X.iconst (pc := 6) dX6_empty_6 ⟨by decide, by decide⟩ ?_
  refine X.putI (pc := 7) dX6_empty_7 fl_X6_25 rfl (fun h9 => by cases h9) (fs_X6 hW mk_coll) (Or.inl rfl) ?_
  refine X.aload_n (pc := 10) (i := 0) 0 dX6_empty_10 rfl rfl ?_
  refine X.iconst (pc := 11) dX6_empty_11 ⟨by decide, by decide⟩ ?_
  refine X.putI (pc := 12) dX6_empty_12 fl_X6_28 rfl (fun h9 => by cases h9) (fs_X6 hW mk_coll) (Or.inl rfl) ?_
  refine X.vret (pc := 15) dX6_empty_15 rfl (Nat.le_of_ble_eq_true rfl) (Nat.le_of_ble_eq_true rfl) ?_
  refine X.nrm (pc' := 12) (ls' := []) (st' := []) (k' := 0) (n' := 0) rfl rfl rfl rfl rfl ?_
  refine X.vret (pc := 12) dX3_empty_12 rfl (Nat.le_of_ble_eq_true rfl) (Nat.le_of_ble_eq_true rfl) ?_
  refine X.nrm (pc' := 15) (ls' := [(0, vR 0), (1, vI ((μ) 1 2))]) (st' := []) (k' := 0) (n' := 0) rfl rfl rfl rfl rfl ?_
  refine X.aload_n (pc := 15) (i := 0) 0 dX9_clear_15 rfl rfl ?_
  refine X.getR (pc := 16) (b := f) dX9_clear_16 fl_X9_54 rfl (fs_X9 hW) (fp_X9_6 hW) ?_
  refine X.callV (pc := 19) (vs := []) (st := []) dX9_clear_19 rfl okM_X2_empty rfl lk_X9_125 inst_X2_empty sel_X2_empty (fs_X2 hW (wf_f hW)) rfl ⟨⟨by decide, by decide⟩, ⟨by decide, by decide⟩, Nat.le_of_ble_eq_true rfl⟩ (Nat.le_of_ble_eq_true rfl) ?_
  refine X.nrm (pc' := 0) (ls' := [(0, vR f)]) (st' := []) (k' := 0) (n' := 0) rfl rfl rfl rfl rfl ?_
  refine X.aload_n (pc := 0) (i := 0) 0 dX2_empty_0 rfl rfl ?_
  refine X.iconst (pc := 1) dX2_empty_1 ⟨by decide, by decide⟩ ?_
  refine X.iconst (pc := 2) dX2_empty_2 ⟨by decide, by decide⟩ ?_
  refine X.pick [] rfl ?_
  refine X.callV (pc := 3) (vs := [vI 0, vI 0]) (st := []) dX2_empty_3 rfl okM_X2_begin rfl lk_X2_31 inst_X2_begin sel_X2_begin (fs_X2 hW (wf_f hW)) rfl ⟨⟨by decide, by decide⟩, ⟨by decide, by decide⟩, Nat.le_of_ble_eq_true rfl⟩ (Nat.le_of_ble_eq_true rfl) ?_
  refine X.nrm (pc' := 0) (ls' := [(0, vR f), (1, vI 0), (2, vI 0)]) (st' := []) (k' := 0) (n' := 0) rfl rfl rfl rfl rfl ?_
  refine X.aload_n (pc := 0) (i := 0) 0 dX2_begin_0 rfl rfl ?_
  refine X.iload_n (pc := 1) (i := 1) 1 dX2_begin_1 rfl rfl ?_
  refine X.putI (pc := 2) dX2_begin_2 fl_X2_18 rfl (fun h9 => by cases h9) (fs_X2 hW (wf_f hW)) (Or.inl rfl) ?_
  refine X.aload_n (pc := 5) (i := 0) 0 dX2_begin_5 rfl rfl ?_
  refine X.iload_n (pc := 6) (i := 2) 2 dX2_begin_6 rfl rfl ?_
  refine X.putI (pc := 7) dX2_begin_7 fl_X2_22 rfl (fun h9 => by cases h9) (fs_X2 hW (wf_f hW)) (Or.inl rfl) ?_
  refine X.aload_n (pc := 10) (i := 0) 0 dX2_begin_10 rfl rfl ?_
  refine X.iconst (pc := 11) dX2_begin_11 ⟨by decide, by decide⟩ ?_
  refine X.putI (pc := 12) dX2_begin_12 fl_X2_25 rfl (fun h9 => by cases h9) (fs_X2 hW (wf_f hW)) (Or.inl rfl) ?_
  refine X.aload_n (pc := 15) (i := 0) 0 dX2_begin_15 rfl rfl ?_
  refine X.iconst (pc := 16) dX2_begin_16 ⟨by decide, by decide⟩ ?_
  refine X.putI (pc := 17) dX2_begin_17 fl_X2_28 rfl (fun h9 => by cases h9) (fs_X2 hW (wf_f hW)) (Or.inl rfl) ?_
  refine X.vret (pc := 20) dX2_begin_20 rfl (Nat.le_of_ble_eq_true rfl) (Nat.le_of_ble_eq_true rfl) ?_
  refine X.nrm (pc' := 6) (ls' := []) (st' := []) (k' := 0) (n' := 0) rfl rfl rfl rfl rfl ?_
  refine X.vret (pc := 6) dX2_empty_6 rfl (Nat.le_of_ble_eq_true rfl) (Nat.le_of_ble_eq_true rfl) ?_
  refine X.nrm (pc' := 22) (ls' := [(0, vR 0), (1, vI ((μ) 1 2))]) (st' := []) (k' := 0) (n' := 0) rfl rfl rfl rfl rfl ?_
  refine X.aload_n (pc := 22) (i := 0) 0 dX9_clear_22 rfl rfl ?_
  refine X.pick [1] rfl ?_
  refine X.callV (pc := 23) (vs := []) (st := []) dX9_clear_23 rfl okM_X9_forgetParses rfl lk_X9_80 inst_X9_forgetParses sel_X9_forgetParses (fs_X9 hW) rfl ⟨⟨by decide, by decide⟩, ⟨by decide, by decide⟩, Nat.le_of_ble_eq_true rfl⟩ (Nat.le_of_ble_eq_true rfl) ?_
  refine X.nrm (pc' := 0) (ls' := [(0, vR 0)]) (st' := []) (k' := 0) (n' := 0) rfl rfl rfl rfl rfl ?_
  refine X.aload_n (pc := 0) (i := 0) 0 dX9_forgetParses_0 rfl rfl ?_
  refine X.getR (pc := 1) (b := 213) dX9_forgetParses_1 fl_X9_35 rfl (fs_X9 hW) (fp_X9_3 hW) ?_
  refine X.iconst (pc := 4) dX9_forgetParses_4 ⟨by decide, by decide⟩ ?_
  refine X.putI (pc := 5) dX9_forgetParses_5 fl_X9_185 rfl (fun h9 => by cases h9) (fs_X1 hW mk_free) (Or.inr (Or.inr rfl)) ?_
  refine X.aload_n (pc := 8) (i := 0) 0 dX9_forgetParses_8 rfl rfl ?_
  refine X.getR (pc := 9) (b := 231) dX9_forgetParses_9 fl_X9_39 rfl (fs_X9 hW) (fp_X9_4 hW) ?_
  refine X.iconst (pc := 12) dX9_forgetParses_12 ⟨by decide, by decide⟩ ?_
  refine X.putI (pc := 13) dX9_forgetParses_13 fl_X9_185 rfl (fun h9 => by cases h9) (fs_X1 hW mk_bound) (Or.inr (Or.inr rfl)) ?_
  refine X.vret (pc := 16) dX9_forgetParses_16 rfl (Nat.le_of_ble_eq_true rfl) (Nat.le_of_ble_eq_true rfl) ?_
  refine X.nrm (pc' := 26) (ls' := [(1, vI ((μ) 1 2))]) (st' := []) (k' := 0) (n' := 0) rfl rfl rfl rfl rfl ?_
  refine X.iload_n (pc := 26) (i := 1) 0 dX9_clear_26 rfl rfl ?_
  exact X.iret (pc := 27) dX9_clear_27 rfl (Nat.le_of_ble_eq_true rfl) (Nat.le_of_ble_eq_true rfl) h

theorem g_X9_rule_0 {sh : List (Nat × Nat)} {ν : Nat → Nat → Option Nat} {μ : Nat → Nat → Int} {f s : Nat} {Q : xQ} (hW : WF sh ν f s) {x1 : Int} {x2 : Int}
    (h : (((0 ≤ x1 ∧ x1 < (μ) 1 2) → (0 ≤ x1 ∧ x1 < (40 : Nat)) ∧ ((x2 = 0 → Q (some (vI ((μ) (7 + 5 * (Int.toNat x1)) 1))) sh (ν) (μ)) ∧ (x2 = 1 → Q (some (vI ((μ) (7 + 5 * (Int.toNat x1)) 2))) sh (ν) (μ)) ∧ (x2 = 2 → Q (some (vI ((μ) (7 + 5 * (Int.toNat x1)) 3))) sh (ν) (μ)) ∧ (x2 = 3 → Q (some (vI ((μ) ((7 + 5 * (Int.toNat x1)) + 1) 3))) sh (ν) (μ)) ∧ (x2 = 4 → Q (some (vI ((μ) (7 + 5 * (Int.toNat x1)) 4))) sh (ν) (μ)) ∧ (x2 < 0 ∨ 4 < x2 → Q (some (vI (-2))) sh (ν) (μ)))) ∧ (¬ (0 ≤ x1 ∧ x1 < (μ) 1 2) → Q (some (vI (-1))) sh (ν) (μ)))) :
    X mX9_rule 0 [(0, vR 0), (1, vI x1), (2, vI x2)] [] sh ν μ 0 0 Q := by
  refine X.aload_n (pc := 0) (i := 0) 0 dX9_rule_0 rfl rfl ?_
  refine X.getR (pc := 1) (b := 1) dX9_rule_1 fl_X9_12 rfl (fs_X9 hW) (fp_X9_0 hW) ?_
  refine X.iload_n (pc := 4) (i := 1) 1 dX9_rule_4 rfl rfl ?_
  refine X.callV (pc := 5) (vs := [vI x1]) (st := []) dX9_rule_5 rfl okM_X3_has rfl lk_X9_108 inst_X3_has sel_X3_has (fs_X3 hW) rfl ⟨⟨by decide, by decide⟩, ⟨by decide, by decide⟩, Nat.le_of_ble_eq_true rfl⟩ (Nat.le_of_ble_eq_true rfl) (c_X3_has hW ?_)
  refine X.nrm (pc' := 8) (ls' := [(0, vR 0), (1, vI x1), (2, vI x2)]) (st' := [vI (bI (0 ≤ x1 ∧ x1 < (μ) 1 2))]) (k' := 0) (n' := 0) rfl rfl rfl rfl rfl ?_
  refine X.if_ne (pc := 8) 13 dX9_rule_8 (by decide) ⟨fun q9 => ?_, fun q9 => ?_⟩
  · have h := h.1 (bI_ne.mp q9)
    refine X.aload_n (pc := 13) (i := 0) 0 dX9_rule_13 rfl rfl ?_
    refine X.getR (pc := 14) (b := 1) dX9_rule_14 fl_X9_12 rfl (fs_X9 hW) (fp_X9_0 hW) ?_
    refine X.getR (pc := 17) (b := 2) dX9_rule_17 fl_X9_111 rfl (fs_X3 hW) (fp_X3_0 hW) ?_
    refine X.iload_n (pc := 20) (i := 1) 1 dX9_rule_20 rfl rfl ?_
    obtain ⟨c1, h⟩ := h
    refine X.aaload (pc := 21) dX9_rule_21 (fa_X3_0 hW) (Or.inl rfl) c1 (fe_rules hW c1) ?_
    refine X.astore_n (pc := 22) (i := 3) (ls' := [(3, vR (7 + 5 * (Int.toNat x1))), (0, vR 0), (1, vI x1), (2, vI x2)]) dX9_rule_22 rfl (by decide) rfl ?_
    refine X.iload_n (pc := 23) (i := 2) 3 dX9_rule_23 rfl rfl ?_
    rcases Classical.em (0 ≤ x2 ∧ x2 ≤ 4) with q9 | q9
    · have q8 : x2 = 0 ∨ x2 = 1 ∨ x2 = 2 ∨ x2 = 3 ∨ x2 = 4 := by omega
      rcases q8 with q8 | q8 | q8 | q8 | q8
      · have h := h.1 q8
        refine X.tsIn (pc := 24) (off := 36) 60 dX9_rule_24 q9.1 q9.2 (by rw [q8]; rfl) (by decide) ?_
        refine X.aload_n (pc := 60) (i := 3) 0 dX9_rule_60 rfl rfl ?_
        refine X.getI (pc := 61) dX9_rule_61 fl_X9_126 rfl (fs_X7 hW (mk_rules c1)) ?_
        exact X.iret (pc := 64) dX9_rule_64 rfl (Nat.le_of_ble_eq_true rfl) (Nat.le_of_ble_eq_true rfl) h
      · have h := h.2.1 q8
        refine X.tsIn (pc := 24) (off := 41) 65 dX9_rule_24 q9.1 q9.2 (by rw [q8]; rfl) (by decide) ?_
        refine X.aload_n (pc := 65) (i := 3) 0 dX9_rule_65 rfl rfl ?_
        refine X.getI (pc := 66) dX9_rule_66 fl_X9_129 rfl (fs_X7 hW (mk_rules c1)) ?_
        exact X.iret (pc := 69) dX9_rule_69 rfl (Nat.le_of_ble_eq_true rfl) (Nat.le_of_ble_eq_true rfl) h
      · have h := h.2.2.1 q8
        refine X.tsIn (pc := 24) (off := 46) 70 dX9_rule_24 q9.1 q9.2 (by rw [q8]; rfl) (by decide) ?_
        refine X.aload_n (pc := 70) (i := 3) 0 dX9_rule_70 rfl rfl ?_
        refine X.getI (pc := 71) dX9_rule_71 fl_X9_132 rfl (fs_X7 hW (mk_rules c1)) ?_
        exact X.iret (pc := 74) dX9_rule_74 rfl (Nat.le_of_ble_eq_true rfl) (Nat.le_of_ble_eq_true rfl) h
      · have h := h.2.2.2.1 q8
        refine X.tsIn (pc := 24) (off := 51) 75 dX9_rule_24 q9.1 q9.2 (by rw [q8]; rfl) (by decide) ?_
        refine X.aload_n (pc := 75) (i := 3) 0 dX9_rule_75 rfl rfl ?_
        refine X.getR (pc := 76) (b := ((7 + 5 * (Int.toNat x1)) + 1)) dX9_rule_76 fl_X9_135 rfl (fs_X7 hW (mk_rules c1)) (fp_X7_0 hW (mk_rules c1)) ?_
        refine X.getI (pc := 79) dX9_rule_79 fl_X9_91 rfl (fs_X6 hW (mk_rule_parts (mk_rules c1))) ?_
        exact X.iret (pc := 82) dX9_rule_82 rfl (Nat.le_of_ble_eq_true rfl) (Nat.le_of_ble_eq_true rfl) h
      · have h := h.2.2.2.2.1 q8
        refine X.tsIn (pc := 24) (off := 59) 83 dX9_rule_24 q9.1 q9.2 (by rw [q8]; rfl) (by decide) ?_
        refine X.aload_n (pc := 83) (i := 3) 0 dX9_rule_83 rfl rfl ?_
        refine X.getI (pc := 84) dX9_rule_84 fl_X9_138 rfl (fs_X7 hW (mk_rules c1)) ?_
        exact X.iret (pc := 87) dX9_rule_87 rfl (Nat.le_of_ble_eq_true rfl) (Nat.le_of_ble_eq_true rfl) h
    · have q8 : x2 < 0 ∨ 4 < x2 := by omega
      have h := h.2.2.2.2.2 q8
      refine X.tsOut (pc := 24) 88 dX9_rule_24 q8 (by decide) ?_
      refine X.bipush (pc := 88) (y := -2) dX9_rule_88 rfl ⟨by decide, by decide⟩ ?_
      exact X.iret (pc := 90) dX9_rule_90 rfl (Nat.le_of_ble_eq_true rfl) (Nat.le_of_ble_eq_true rfl) h
  · have h := h.2 (bI_eq.mp q9)
    refine X.iconst (pc := 11) dX9_rule_11 ⟨by decide, by decide⟩ ?_
    exact X.iret (pc := 12) dX9_rule_12 rfl (Nat.le_of_ble_eq_true rfl) (Nat.le_of_ble_eq_true rfl) h

theorem g_X9_put_0 {sh : List (Nat × Nat)} {ν : Nat → Nat → Option Nat} {μ : Nat → Nat → Int} {f s : Nat} {Q : xQ} (hW : WF sh ν f s) {x1 : Int} {x2 : Int}
    (h : (((0 ≤ x1 ∧ x1 < 81 ∧ x1 % 9 < (μ) 211 1 ∧ x1 / 9 < (μ) 211 2) → (((0 ≤ x2 ∧ x2 ≤ 25) → (0 ≤ x1 ∧ x1 < (81 : Nat)) ∧ (0 ≤ x1 ∧ x1 < (81 : Nat)) ∧ Q (some (vI ((μ) 212 (Int.toNat x1)))) sh (ν) (up (up μ 212 (Int.toNat x1) (w8 (w8 x2))) 231 13 1)) ∧ (¬ (0 ≤ x2 ∧ x2 ≤ 25) → Q (some (vI (-2))) sh (ν) (μ)))) ∧ (¬ (0 ≤ x1 ∧ x1 < 81 ∧ x1 % 9 < (μ) 211 1 ∧ x1 / 9 < (μ) 211 2) → Q (some (vI (-1))) sh (ν) (μ)))) :
    X mX9_put 0 [(0, vR 0), (1, vI x1), (2, vI x2)] [] sh ν μ 0 0 Q := by
  refine X.aload_n (pc := 0) (i := 0) 0 dX9_put_0 rfl rfl ?_
  refine X.getR (pc := 1) (b := 211) dX9_put_1 fl_X9_26 rfl (fs_X9 hW) (fp_X9_2 hW) ?_
  refine X.iload_n (pc := 4) (i := 1) 1 dX9_put_4 rfl rfl ?_
  refine X.callV (pc := 5) (vs := [vI x1]) (st := []) dX9_put_5 rfl okM_X0_has rfl lk_X9_205 inst_X0_has sel_X0_has (fs_X0 hW) rfl ⟨⟨by decide, by decide⟩, ⟨by decide, by decide⟩, Nat.le_of_ble_eq_true rfl⟩ (Nat.le_of_ble_eq_true rfl) (c_X0_has hW ?_)
  refine X.nrm (pc' := 8) (ls' := [(0, vR 0), (1, vI x1), (2, vI x2)]) (st' := [vI (bI (0 ≤ x1 ∧ x1 < 81 ∧ x1 % 9 < (μ) 211 1 ∧ x1 / 9 < (μ) 211 2))]) (k' := 0) (n' := 0) rfl rfl rfl rfl rfl ?_
  refine X.if_ne (pc := 8) 13 dX9_put_8 (by decide) ⟨fun q9 => ?_, fun q9 => ?_⟩
  · have h := h.1 (bI_ne.mp q9)
    refine X.iload_n (pc := 13) (i := 2) 2 dX9_put_13 rfl rfl ?_
    refine X.iconst (pc := 14) dX9_put_14 ⟨by decide, by decide⟩ ?_
    refine X.bipush (pc := 15) (y := 25) dX9_put_15 rfl ⟨by decide, by decide⟩ ?_
    refine X.callS (pc := 17) (vs := [vI x2, vI 0, vI 25]) (st := []) dX9_put_17 rfl okM_X9_isWithin rfl lk_X9_69 stat_X9_isWithin ⟨⟨by decide, by decide⟩, ⟨by decide, by decide⟩, Nat.le_of_ble_eq_true rfl⟩ (Nat.le_of_ble_eq_true rfl) (c_X9_isWithin hW ?_)
    refine X.nrm (pc' := 20) (ls' := [(0, vR 0), (1, vI x1), (2, vI x2)]) (st' := [vI (bI (0 ≤ x2 ∧ x2 ≤ 25))]) (k' := 0) (n' := 0) rfl rfl rfl rfl rfl ?_
    refine X.if_ne (pc := 20) 26 dX9_put_20 (by decide) ⟨fun q9 => ?_, fun q9 => ?_⟩
    · have h := h.1 (bI_ne.mp q9)
      refine X.aload_n (pc := 26) (i := 0) 0 dX9_put_26 rfl rfl ?_
      refine X.getR (pc := 27) (b := 211) dX9_put_27 fl_X9_26 rfl (fs_X9 hW) (fp_X9_2 hW) ?_
      refine X.getR (pc := 30) (b := 212) dX9_put_30 fl_X9_206 rfl (fs_X0 hW) (fp_X0_0 hW) ?_
      refine X.iload_n (pc := 33) (i := 1) 1 dX9_put_33 rfl rfl ?_
      obtain ⟨c1, h⟩ := h
      refine X.baload (pc := 34) dX9_put_34 (fa_X0_0 hW) c1 ?_
      refine X.istore_n (pc := 35) (i := 3) (ls' := [(3, vI ((μ) 212 (Int.toNat x1))), (0, vR 0), (1, vI x1), (2, vI x2)]) dX9_put_35 rfl (by decide) rfl ?_
      refine X.aload_n (pc := 36) (i := 0) 1 dX9_put_36 rfl rfl ?_
      refine X.getR (pc := 37) (b := 211) dX9_put_37 fl_X9_26 rfl (fs_X9 hW) (fp_X9_2 hW) ?_
      refine X.getR (pc := 40) (b := 212) dX9_put_40 fl_X9_206 rfl (fs_X0 hW) (fp_X0_0 hW) ?_
      refine X.iload_n (pc := 43) (i := 1) 2 dX9_put_43 rfl rfl ?_
      refine X.iload_n (pc := 44) (i := 2) 3 dX9_put_44 rfl rfl ?_
      refine X.i2b (pc := 45) dX9_put_45 ?_
      obtain ⟨c2, h⟩ := h
      refine X.bastore (pc := 46) dX9_put_46 (fa_X0_0 hW) c2 ?_
      refine X.aload_n (pc := 47) (i := 0) 1 dX9_put_47 rfl rfl ?_
      refine X.getR (pc := 48) (b := 231) dX9_put_48 fl_X9_39 rfl (fs_X9 hW) (fp_X9_4 hW) ?_
      refine X.iconst (pc := 51) dX9_put_51 ⟨by decide, by decide⟩ ?_
      refine X.putI (pc := 52) dX9_put_52 fl_X9_185 rfl (fun h9 => by cases h9) (fs_X1 hW mk_bound) (Or.inr (Or.inr rfl)) ?_
      refine X.iload_n (pc := 55) (i := 3) 0 dX9_put_55 rfl rfl ?_
      exact X.iret (pc := 56) dX9_put_56 rfl (Nat.le_of_ble_eq_true rfl) (Nat.le_of_ble_eq_true rfl) h
    · have h := h.2 (bI_eq.mp q9)
      refine X.bipush (pc := 23) (y := -2) dX9_put_23 rfl ⟨by decide, by decide⟩ ?_
      exact X.iret (pc := 25) dX9_put_25 rfl (Nat.le_of_ble_eq_true rfl) (Nat.le_of_ble_eq_true rfl) h
  · have h := h.2 (bI_eq.mp q9)
    refine X.iconst (pc := 11) dX9_put_11 ⟨by decide, by decide⟩ ?_
    exact X.iret (pc := 12) dX9_put_12 rfl (Nat.le_of_ble_eq_true rfl) (Nat.le_of_ble_eq_true rfl) h

theorem g_X9_isName_0 {sh : List (Nat × Nat)} {ν : Nat → Nat → Option Nat} {μ : Nat → Nat → Int} {f s : Nat} {Q : xQ} (hW : WF sh ν f s) {x0 : Int}
    (h : Q (some (vI (bI (0 ≤ x0 ∧ x0 ≤ 7)))) sh (ν) (μ)) :
    X mX9_isName 0 [(0, vI x0)] [] sh ν μ 0 0 Q := by
  refine X.iload_n (pc := 0) (i := 0) 0 dX9_isName_0 rfl rfl ?_
  refine X.iconst (pc := 1) dX9_isName_1 ⟨by decide, by decide⟩ ?_
  refine X.bipush (pc := 2) (y := 7) dX9_isName_2 rfl ⟨by decide, by decide⟩ ?_
  refine X.pick [] rfl ?_
  refine X.callS (pc := 4) (vs := [vI x0, vI 0, vI 7]) (st := []) dX9_isName_4 rfl okM_X9_isWithin rfl lk_X9_69 stat_X9_isWithin ⟨⟨by decide, by decide⟩, ⟨by decide, by decide⟩, Nat.le_of_ble_eq_true rfl⟩ (Nat.le_of_ble_eq_true rfl) (c_X9_isWithin hW ?_)
  refine X.nrm (pc' := 7) (ls' := []) (st' := [vI (bI (0 ≤ x0 ∧ x0 ≤ 7))]) (k' := 0) (n' := 0) rfl rfl rfl rfl rfl ?_
  exact X.zret (pc := 7) dX9_isName_7 rfl (bI_01 _) (Nat.le_of_ble_eq_true rfl) (Nat.le_of_ble_eq_true rfl) h

theorem g_X9_isCost_0 {sh : List (Nat × Nat)} {ν : Nat → Nat → Option Nat} {μ : Nat → Nat → Int} {f s : Nat} {Q : xQ} (hW : WF sh ν f s) {x0 : Int}
    (h : Q (some (vI (bI (0 ≤ x0 ∧ x0 ≤ 99)))) sh (ν) (μ)) :
    X mX9_isCost 0 [(0, vI x0)] [] sh ν μ 0 0 Q := by
  refine X.iload_n (pc := 0) (i := 0) 0 dX9_isCost_0 rfl rfl ?_
  refine X.iconst (pc := 1) dX9_isCost_1 ⟨by decide, by decide⟩ ?_
  refine X.bipush (pc := 2) (y := 99) dX9_isCost_2 rfl ⟨by decide, by decide⟩ ?_
  refine X.pick [] rfl ?_
  refine X.callS (pc := 4) (vs := [vI x0, vI 0, vI 99]) (st := []) dX9_isCost_4 rfl okM_X9_isWithin rfl lk_X9_69 stat_X9_isWithin ⟨⟨by decide, by decide⟩, ⟨by decide, by decide⟩, Nat.le_of_ble_eq_true rfl⟩ (Nat.le_of_ble_eq_true rfl) (c_X9_isWithin hW ?_)
  refine X.nrm (pc' := 7) (ls' := []) (st' := [vI (bI (0 ≤ x0 ∧ x0 ≤ 99))]) (k' := 0) (n' := 0) rfl rfl rfl rfl rfl ?_
  exact X.zret (pc := 7) dX9_isCost_7 rfl (bI_01 _) (Nat.le_of_ble_eq_true rfl) (Nat.le_of_ble_eq_true rfl) h

theorem g_X9_isScope_0 {sh : List (Nat × Nat)} {ν : Nat → Nat → Option Nat} {μ : Nat → Nat → Int} {f s : Nat} {Q : xQ} (hW : WF sh ν f s) {x0 : Int} {x1 : Int}
    (h : ((¬ (1 ≤ x0 ∧ x0 ≤ 20) → Q (some (vI 0)) sh (ν) (μ)) ∧ ((1 ≤ x0 ∧ x0 ≤ 20) → ((¬ (1 ≤ x1 ∧ x1 ≤ 20) → Q (some (vI 0)) sh (ν) (μ)) ∧ ((1 ≤ x1 ∧ x1 ≤ 20) → Q (some (vI 1)) sh (ν) (μ)))))) :
    X mX9_isScope 0 [(0, vI x0), (1, vI x1)] [] sh ν μ 0 0 Q := by
  refine X.iload_n (pc := 0) (i := 0) 0 dX9_isScope_0 rfl rfl ?_
  refine X.iconst (pc := 1) dX9_isScope_1 ⟨by decide, by decide⟩ ?_
  refine X.bipush (pc := 2) (y := 20) dX9_isScope_2 rfl ⟨by decide, by decide⟩ ?_
  refine X.pick [1] rfl ?_
  refine X.callS (pc := 4) (vs := [vI x0, vI 1, vI 20]) (st := []) dX9_isScope_4 rfl okM_X9_isWithin rfl lk_X9_69 stat_X9_isWithin ⟨⟨by decide, by decide⟩, ⟨by decide, by decide⟩, Nat.le_of_ble_eq_true rfl⟩ (Nat.le_of_ble_eq_true rfl) (c_X9_isWithin hW ?_)
  refine X.nrm (pc' := 7) (ls' := [(1, vI x1)]) (st' := [vI (bI (1 ≤ x0 ∧ x0 ≤ 20))]) (k' := 0) (n' := 0) rfl rfl rfl rfl rfl ?_
  refine X.if_eq (pc := 7) 24 dX9_isScope_7 (by decide) ⟨fun q9 => ?_, fun q9 => ?_⟩
  · have h := h.1 (bI_eq.mp q9)
    refine X.iconst (pc := 24) dX9_isScope_24 ⟨by decide, by decide⟩ ?_
    exact X.zret (pc := 25) dX9_isScope_25 rfl (by decide) (Nat.le_of_ble_eq_true rfl) (Nat.le_of_ble_eq_true rfl) h
  · have h := h.2 (bI_ne.mp q9)
    refine X.iload_n (pc := 10) (i := 1) 0 dX9_isScope_10 rfl rfl ?_
    refine X.iconst (pc := 11) dX9_isScope_11 ⟨by decide, by decide⟩ ?_
    refine X.bipush (pc := 12) (y := 20) dX9_isScope_12 rfl ⟨by decide, by decide⟩ ?_
    refine X.pick [] rfl ?_
    refine X.callS (pc := 14) (vs := [vI x1, vI 1, vI 20]) (st := []) dX9_isScope_14 rfl okM_X9_isWithin rfl lk_X9_69 stat_X9_isWithin ⟨⟨by decide, by decide⟩, ⟨by decide, by decide⟩, Nat.le_of_ble_eq_true rfl⟩ (Nat.le_of_ble_eq_true rfl) (c_X9_isWithin hW ?_)
    refine X.nrm (pc' := 17) (ls' := []) (st' := [vI (bI (1 ≤ x1 ∧ x1 ≤ 20))]) (k' := 0) (n' := 0) rfl rfl rfl rfl rfl ?_
    refine X.if_eq (pc := 17) 24 dX9_isScope_17 (by decide) ⟨fun q9 => ?_, fun q9 => ?_⟩
    · have h := h.1 (bI_eq.mp q9)
      refine X.iconst (pc := 24) dX9_isScope_24 ⟨by decide, by decide⟩ ?_
      exact X.zret (pc := 25) dX9_isScope_25 rfl (by decide) (Nat.le_of_ble_eq_true rfl) (Nat.le_of_ble_eq_true rfl) h
    · have h := h.2 (bI_ne.mp q9)
      refine X.iconst (pc := 20) dX9_isScope_20 ⟨by decide, by decide⟩ ?_
      refine X.goto (pc := 21) (tgt := 25) dX9_isScope_21 (by decide) ?_
      exact X.zret (pc := 25) dX9_isScope_25 rfl (by decide) (Nat.le_of_ble_eq_true rfl) (Nat.le_of_ble_eq_true rfl) h

theorem g_X10_isName_0 {sh : List (Nat × Nat)} {ν : Nat → Nat → Option Nat} {μ : Nat → Nat → Int} {f s : Nat} {Q : xQ} (hW : WF sh ν f s) {x0 : Int}
    (h : Q (some (vI (bI (0 ≤ x0 ∧ x0 ≤ 7)))) sh (ν) (μ)) :
    X mX10_isName 0 [(0, vI x0)] [] sh ν μ 0 0 Q := by
  refine X.iload_n (pc := 0) (i := 0) 0 dX10_isName_0 rfl rfl ?_
  refine X.i2l (pc := 1) dX10_isName_1 ?_
  refine X.lconst (pc := 2) (y := 0) dX10_isName_2 rfl ⟨by decide, by decide⟩ ?_
  refine X.ldc2 (pc := 3) (y := 7) dX10_isName_3 kc_X10_122 rfl ⟨by decide, by decide⟩ ?_
  refine X.pick [] rfl ?_
  refine X.callS (pc := 6) (vs := [vL x0, vL 0, vL 7]) (st := []) dX10_isName_6 rfl okM_X10_in rfl lk_X10_124 stat_X10_in ⟨⟨by decide, by decide⟩, ⟨by decide, by decide⟩, Nat.le_of_ble_eq_true rfl⟩ (Nat.le_of_ble_eq_true rfl) (c_X10_in hW ?_)
  refine X.nrm (pc' := 9) (ls' := []) (st' := [vI (bI (0 ≤ x0 ∧ x0 ≤ 7))]) (k' := 0) (n' := 0) rfl rfl rfl rfl rfl ?_
  exact X.zret (pc := 9) dX10_isName_9 rfl (bI_01 _) (Nat.le_of_ble_eq_true rfl) (Nat.le_of_ble_eq_true rfl) h

theorem g_X10_add_0 {sh : List (Nat × Nat)} {ν : Nat → Nat → Option Nat} {μ : Nat → Nat → Int} {f s : Nat} {Q : xQ} (hW : WF sh ν f s) {x1 : Int} {x2 : Int} {x3 : Int} {x4 : Int}
    (h : (0 ≤ ((μ) 265 0) ∧ ((μ) 265 0) < (40 : Nat)) ∧ (0 ≤ ((μ) 265 0) ∧ ((μ) 265 0) < (40 : Nat)) ∧ (0 ≤ ((μ) 265 0) ∧ ((μ) 265 0) < (40 : Nat)) ∧ (0 ≤ ((μ) 265 0) ∧ ((μ) 265 0) < (40 : Nat)) ∧ (0 ≤ ((μ) 265 0) ∧ ((μ) 265 0) < (40 : Nat)) ∧ X mX10_add 54 [(0, vR 265), (5, vI 0)] [] sh (ν) (up (up (up (up (up μ 266 (Int.toNat ((μ) 265 0)) x1) 267 (Int.toNat ((μ) 265 0)) x2) 268 (Int.toNat ((μ) 265 0)) x3) 269 (Int.toNat ((μ) 265 0)) x4) 270 (Int.toNat ((μ) 265 0)) 0) 0 0 Q) :
    X mX10_add 0 [(0, vR 265), (1, vI x1), (2, vI x2), (3, vI x3), (4, vI x4)] [] sh ν μ 0 0 Q := by
  refine X.aload_n (pc := 0) (i := 0) 0 dX10_add_0 rfl rfl ?_
  refine X.getR (pc := 1) (b := 266) dX10_add_1 fl_X10_7 rfl (fs_X10 hW) (fp_X10_1 hW) ?_
  refine X.aload_n (pc := 4) (i := 0) 0 dX10_add_4 rfl rfl ?_
  refine X.getI (pc := 5) dX10_add_5 fl_X10_128 rfl (fs_X10 hW) ?_
  refine X.iload_n (pc := 8) (i := 1) 1 dX10_add_8 rfl rfl ?_
  obtain ⟨c1, h⟩ := h
  refine X.iastore (pc := 9) dX10_add_9 (fa_X10_1 hW) c1 ?_
  refine X.aload_n (pc := 10) (i := 0) 0 dX10_add_10 rfl rfl ?_
  refine X.getR (pc := 11) (b := 267) dX10_add_11 fl_X10_13 rfl (fs_X10 hW) (fp_X10_2 hW) ?_
  refine X.aload_n (pc := 14) (i := 0) 0 dX10_add_14 rfl rfl ?_
  refine X.getI (pc := 15) dX10_add_15 fl_X10_128 rfl (fs_X10 hW) ?_
  refine X.topI (y := ((μ) 265 0)) ((up_a (by decide) _)) ?_
  refine X.iload_n (pc := 18) (i := 2) 2 dX10_add_18 rfl rfl ?_
  obtain ⟨c2, h⟩ := h
  refine X.iastore (pc := 19) dX10_add_19 (fa_X10_2 hW) c2 ?_
  refine X.aload_n (pc := 20) (i := 0) 0 dX10_add_20 rfl rfl ?_
  refine X.getR (pc := 21) (b := 268) dX10_add_21 fl_X10_16 rfl (fs_X10 hW) (fp_X10_3 hW) ?_
  refine X.aload_n (pc := 24) (i := 0) 0 dX10_add_24 rfl rfl ?_
  refine X.getI (pc := 25) dX10_add_25 fl_X10_128 rfl (fs_X10 hW) ?_
  refine X.topI (y := ((μ) 265 0)) (Eq.trans (up_a (by decide) _) ((up_a (by decide) _))) ?_
  refine X.iload_n (pc := 28) (i := 3) 3 dX10_add_28 rfl rfl ?_
  obtain ⟨c3, h⟩ := h
  refine X.iastore (pc := 29) dX10_add_29 (fa_X10_3 hW) c3 ?_
  refine X.aload_n (pc := 30) (i := 0) 0 dX10_add_30 rfl rfl ?_
  refine X.getR (pc := 31) (b := 269) dX10_add_31 fl_X10_19 rfl (fs_X10 hW) (fp_X10_4 hW) ?_
  refine X.aload_n (pc := 34) (i := 0) 0 dX10_add_34 rfl rfl ?_
  refine X.getI (pc := 35) dX10_add_35 fl_X10_128 rfl (fs_X10 hW) ?_
  refine X.topI (y := ((μ) 265 0)) (Eq.trans (up_a (by decide) _) (Eq.trans (up_a (by decide) _) ((up_a (by decide) _)))) ?_
  refine X.iload (pc := 38) (i := 4) 4 dX10_add_38 rfl ?_
  obtain ⟨c4, h⟩ := h
  refine X.iastore (pc := 40) dX10_add_40 (fa_X10_4 hW) c4 ?_
  refine X.aload_n (pc := 41) (i := 0) 0 dX10_add_41 rfl rfl ?_
  refine X.getR (pc := 42) (b := 270) dX10_add_42 fl_X10_22 rfl (fs_X10 hW) (fp_X10_5 hW) ?_
  refine X.aload_n (pc := 45) (i := 0) 0 dX10_add_45 rfl rfl ?_
  refine X.getI (pc := 46) dX10_add_46 fl_X10_128 rfl (fs_X10 hW) ?_
  refine X.topI (y := ((μ) 265 0)) (Eq.trans (up_a (by decide) _) (Eq.trans (up_a (by decide) _) (Eq.trans (up_a (by decide) _) ((up_a (by decide) _))))) ?_
  refine X.iconst (pc := 49) dX10_add_49 ⟨by decide, by decide⟩ ?_
  obtain ⟨c5, h⟩ := h
  refine X.iastore (pc := 50) dX10_add_50 (fa_X10_5 hW) c5 ?_
  refine X.iconst (pc := 51) dX10_add_51 ⟨by decide, by decide⟩ ?_
  refine X.istore (pc := 52) (i := 5) (ls' := [(5, vI 0), (0, vR 265), (1, vI x1), (2, vI x2), (3, vI x3), (4, vI x4)]) dX10_add_52 (by decide) rfl ?_
  exact X.pick [1, 0] rfl h

theorem g_X10_add_54 {sh : List (Nat × Nat)} {ν : Nat → Nat → Option Nat} {μ : Nat → Nat → Int} {f s : Nat} {Q : xQ} (hW : WF sh ν f s) {x5 : Int}
    (h : ((4 ≤ x5 → Q (some (vI (w32 ((w32 (((μ) 265 0) + 1)) - 1)))) sh (ν) (up (up (up μ 265 0 (w32 (((μ) 265 0) + 1))) 265 49 0) 265 50 0)) ∧ (x5 < 4 → (((w32 (Int.tmod x5 2)) ≠ 0 → X mX10_add 86 [(0, vR 265), (5, vI x5)] [vI 20, vI (w32 ((w32 (4 * ((μ) 265 0))) + x5)), vR 274] sh (ν) (μ) 0 0 Q) ∧ ((w32 (Int.tmod x5 2)) = 0 → X mX10_add 86 [(0, vR 265), (5, vI x5)] [vI 1, vI (w32 ((w32 (4 * ((μ) 265 0))) + x5)), vR 274] sh (ν) (μ) 0 0 Q))))) :
    X mX10_add 54 [(0, vR 265), (5, vI x5)] [] sh ν μ 0 0 Q := by
  refine X.iload (pc := 54) (i := 5) 1 dX10_add_54 rfl ?_
  refine X.iconst (pc := 56) dX10_add_56 ⟨by decide, by decide⟩ ?_
  refine X.icmp_ge (pc := 57) 93 dX10_add_57 (by decide) ⟨fun q9 => ?_, fun q9 => ?_⟩
  · have h := h.1 q9
    refine X.aload_n (pc := 93) (i := 0) 0 dX10_add_93 rfl rfl ?_
    refine X.dup (pc := 94) dX10_add_94 rfl ?_
    refine X.getI (pc := 95) dX10_add_95 fl_X10_128 rfl (fs_X10 hW) ?_
    refine X.iconst (pc := 98) dX10_add_98 ⟨by decide, by decide⟩ ?_
    refine X.iadd (pc := 99) dX10_add_99 ?_
    refine X.putI (pc := 100) dX10_add_100 fl_X10_128 rfl (fun h9 => by cases h9) (fs_X10 hW) (Or.inl rfl) ?_
    refine X.aload_n (pc := 103) (i := 0) 0 dX10_add_103 rfl rfl ?_
    refine X.pick [0] rfl ?_
    refine X.callV (pc := 104) (vs := []) (st := []) dX10_add_104 rfl okM_X10_forget rfl lk_X10_132 inst_X10_forget sel_X10_forget (fs_X10 hW) rfl ⟨⟨by decide, by decide⟩, ⟨by decide, by decide⟩, Nat.le_of_ble_eq_true rfl⟩ (Nat.le_of_ble_eq_true rfl) ?_
    refine X.nrm (pc' := 0) (ls' := [(0, vR 265)]) (st' := []) (k' := 0) (n' := 0) rfl rfl rfl rfl rfl ?_
    refine X.aload_n (pc := 0) (i := 0) 0 dX10_forget_0 rfl rfl ?_
    refine X.iconst (pc := 1) dX10_forget_1 ⟨by decide, by decide⟩ ?_
    refine X.putI (pc := 2) dX10_forget_2 fl_X10_276 rfl (fun h9 => by cases h9) (fs_X10 hW) (Or.inr (Or.inl rfl)) ?_
    refine X.aload_n (pc := 5) (i := 0) 0 dX10_forget_5 rfl rfl ?_
    refine X.iconst (pc := 6) dX10_forget_6 ⟨by decide, by decide⟩ ?_
    refine X.putI (pc := 7) dX10_forget_7 fl_X10_214 rfl (fun h9 => by cases h9) (fs_X10 hW) (Or.inr (Or.inl rfl)) ?_
    refine X.vret (pc := 10) dX10_forget_10 rfl (Nat.le_of_ble_eq_true rfl) (Nat.le_of_ble_eq_true rfl) ?_
    refine X.nrm (pc' := 107) (ls' := [(0, vR 265)]) (st' := []) (k' := 0) (n' := 0) rfl rfl rfl rfl rfl ?_
    refine X.aload_n (pc := 107) (i := 0) 0 dX10_add_107 rfl rfl ?_
    refine X.getI (pc := 108) dX10_add_108 fl_X10_128 rfl (fs_X10 hW) ?_
    refine X.topI (y := (w32 (((μ) 265 0) + 1))) (Eq.trans (up_k (by decide) _) (Eq.trans (up_k (by decide) _) ((up_s _ _ _ _)))) ?_
    refine X.iconst (pc := 111) dX10_add_111 ⟨by decide, by decide⟩ ?_
    refine X.isub (pc := 112) dX10_add_112 ?_
    exact X.iret (pc := 113) dX10_add_113 rfl (Nat.le_of_ble_eq_true rfl) (Nat.le_of_ble_eq_true rfl) h
  · have h := h.2 q9
    refine X.aload_n (pc := 60) (i := 0) 0 dX10_add_60 rfl rfl ?_
    refine X.getR (pc := 61) (b := 274) dX10_add_61 fl_X10_35 rfl (fs_X10 hW) (fp_X10_9 hW) ?_
    refine X.iconst (pc := 64) dX10_add_64 ⟨by decide, by decide⟩ ?_
    refine X.aload_n (pc := 65) (i := 0) 0 dX10_add_65 rfl rfl ?_
    refine X.getI (pc := 66) dX10_add_66 fl_X10_128 rfl (fs_X10 hW) ?_
    refine X.imul (pc := 69) dX10_add_69 ?_
    refine X.iload (pc := 70) (i := 5) 1 dX10_add_70 rfl ?_
    refine X.iadd (pc := 72) dX10_add_72 ?_
    refine X.iload (pc := 73) (i := 5) 1 dX10_add_73 rfl ?_
    refine X.iconst (pc := 75) dX10_add_75 ⟨by decide, by decide⟩ ?_
    refine X.irem (pc := 76) dX10_add_76 (by decide) ?_
    refine X.if_ne (pc := 77) 84 dX10_add_77 (by decide) ⟨fun q9 => ?_, fun q9 => ?_⟩
    · have h := h.1 q9
      refine X.bipush (pc := 84) (y := 20) dX10_add_84 rfl ⟨by decide, by decide⟩ ?_
      exact h
    · have h := h.2 q9
      refine X.iconst (pc := 80) dX10_add_80 ⟨by decide, by decide⟩ ?_
      refine X.goto (pc := 81) (tgt := 86) dX10_add_81 (by decide) ?_
      exact h

theorem g_X10_add_86 {sh : List (Nat × Nat)} {ν : Nat → Nat → Option Nat} {μ : Nat → Nat → Int} {f s : Nat} {Q : xQ} (hW : WF sh ν f s) {x5 : Int} {q0 nq0 : Nat} (hq0 : sh[q0]? = some (0, nq0)) {y1 : Int} {y2 : Int}
    (h : (0 ≤ y1 ∧ y1 < (nq0 : Nat)) ∧ X mX10_add 54 [(0, vR 265), (5, vI (w32 (x5 + 1)))] [] sh (ν) (up μ q0 (Int.toNat y1) y2) 0 0 Q) :
    X mX10_add 86 [(0, vR 265), (5, vI x5)] [vI y2, vI y1, vR q0] sh ν μ 0 0 Q := by
  obtain ⟨c1, h⟩ := h
  refine X.iastore (pc := 86) dX10_add_86 hq0 c1 ?_
  refine X.iinc (pc := 87) (i := 5) (ls' := [(5, vI (w32 (x5 + 1))), (0, vR 265)]) 1 dX10_add_87 rfl (by decide) rfl ?_
  refine X.goto (pc := 90) (tgt := 54) dX10_add_90 (by decide) ?_
  exact X.pick [1, 0] rfl h

theorem g_X10_isRule_0 {sh : List (Nat × Nat)} {ν : Nat → Nat → Option Nat} {μ : Nat → Nat → Int} {f s : Nat} {Q : xQ} (hW : WF sh ν f s) {x1 : Int}
    (h : Q (some (vI (bI (0 ≤ x1 ∧ x1 ≤ (w32 (((μ) 265 0) - 1)))))) sh (ν) (μ)) :
    X mX10_isRule 0 [(0, vR 265), (1, vI x1)] [] sh ν μ 0 0 Q := by
  refine X.iload_n (pc := 0) (i := 1) 1 dX10_isRule_0 rfl rfl ?_
  refine X.i2l (pc := 1) dX10_isRule_1 ?_
  refine X.lconst (pc := 2) (y := 0) dX10_isRule_2 rfl ⟨by decide, by decide⟩ ?_
  refine X.aload_n (pc := 3) (i := 0) 0 dX10_isRule_3 rfl rfl ?_
  refine X.getI (pc := 4) dX10_isRule_4 fl_X10_128 rfl (fs_X10 hW) ?_
  refine X.iconst (pc := 7) dX10_isRule_7 ⟨by decide, by decide⟩ ?_
  refine X.isub (pc := 8) dX10_isRule_8 ?_
  refine X.i2l (pc := 9) dX10_isRule_9 ?_
  refine X.pick [] rfl ?_
  refine X.callS (pc := 10) (vs := [vL x1, vL 0, vL (w32 (((μ) 265 0) - 1))]) (st := []) dX10_isRule_10 rfl okM_X10_in rfl lk_X10_124 stat_X10_in ⟨⟨by decide, by decide⟩, ⟨by decide, by decide⟩, Nat.le_of_ble_eq_true rfl⟩ (Nat.le_of_ble_eq_true rfl) (c_X10_in hW ?_)
  refine X.nrm (pc' := 13) (ls' := []) (st' := [vI (bI (0 ≤ x1 ∧ x1 ≤ (w32 (((μ) 265 0) - 1))))]) (k' := 0) (n' := 0) rfl rfl rfl rfl rfl ?_
  exact X.zret (pc := 13) dX10_isRule_13 rfl (bI_01 _) (Nat.le_of_ble_eq_true rfl) (Nat.le_of_ble_eq_true rfl) h

theorem g_X10_isLength_0 {sh : List (Nat × Nat)} {ν : Nat → Nat → Option Nat} {μ : Nat → Nat → Int} {f s : Nat} {Q : xQ} (hW : WF sh ν f s) {x0 : Int}
    (h : Q (some (vI (bI (1 ≤ x0 ∧ x0 ≤ 20)))) sh (ν) (μ)) :
    X mX10_isLength 0 [(0, vI x0)] [] sh ν μ 0 0 Q := by
  refine X.iload_n (pc := 0) (i := 0) 0 dX10_isLength_0 rfl rfl ?_
  refine X.i2l (pc := 1) dX10_isLength_1 ?_
  refine X.lconst (pc := 2) (y := 1) dX10_isLength_2 rfl ⟨by decide, by decide⟩ ?_
  refine X.ldc2 (pc := 3) (y := 20) dX10_isLength_3 kc_X10_149 rfl ⟨by decide, by decide⟩ ?_
  refine X.pick [] rfl ?_
  refine X.callS (pc := 6) (vs := [vL x0, vL 1, vL 20]) (st := []) dX10_isLength_6 rfl okM_X10_in rfl lk_X10_124 stat_X10_in ⟨⟨by decide, by decide⟩, ⟨by decide, by decide⟩, Nat.le_of_ble_eq_true rfl⟩ (Nat.le_of_ble_eq_true rfl) (c_X10_in hW ?_)
  refine X.nrm (pc' := 9) (ls' := []) (st' := [vI (bI (1 ≤ x0 ∧ x0 ≤ 20))]) (k' := 0) (n' := 0) rfl rfl rfl rfl rfl ?_
  exact X.zret (pc := 9) dX10_isLength_9 rfl (bI_01 _) (Nat.le_of_ble_eq_true rfl) (Nat.le_of_ble_eq_true rfl) h

theorem g_X10_clear_0 {sh : List (Nat × Nat)} {ν : Nat → Nat → Option Nat} {μ : Nat → Nat → Int} {f s : Nat} {Q : xQ} (hW : WF sh ν f s) 
    (h : Q (some (vI ((μ) 265 0))) sh (ν) (up (up (up (up (up (up (up μ 265 49 0) 265 50 0) 265 0 0) 265 10 0) 265 18 0) 265 19 0) 265 20 0)) :
    X mX10_clear 0 [(0, vR 265)] [] sh ν μ 0 0 Q := by
  refine X.aload_n (pc := 0) (i := 0) 0 dX10_clear_0 rfl rfl ?_
  refine X.getI (pc := 1) dX10_clear_1 fl_X10_128 rfl (fs_X10 hW) ?_
  refine X.istore_n (pc := 4) (i := 1) (ls' := [(1, vI ((μ) 265 0)), (0, vR 265)]) dX10_clear_4 rfl (by decide) rfl ?_
  refine X.aload_n (pc := 5) (i := 0) 1 dX10_clear_5 rfl rfl ?_
  refine X.pick [1, 0] rfl ?_
  refine X.callV (pc := 6) (vs := []) (st := []) dX10_clear_6 rfl okM_X10_forget rfl lk_X10_132 inst_X10_forget sel_X10_forget (fs_X10 hW) rfl ⟨⟨by decide, by decide⟩, ⟨by decide, by decide⟩, Nat.le_of_ble_eq_true rfl⟩ (Nat.le_of_ble_eq_true rfl) ?_
  refine X.nrm (pc' := 0) (ls' := [(0, vR 265)]) (st' := []) (k' := 0) (n' := 0) rfl rfl rfl rfl rfl ?_
  refine X.aload_n (pc := 0) (i := 0) 0 dX10_forget_0 rfl rfl ?_
  refine X.iconst (pc := 1) dX10_forget_1 ⟨by decide, by decide⟩ ?_
  refine X.putI (pc := 2) dX10_forget_2 fl_X10_276 rfl (fun h9 => by cases h9) (fs_X10 hW) (Or.inr (Or.inl rfl)) ?_
  refine X.aload_n (pc := 5) (i := 0) 0 dX10_forget_5 rfl rfl ?_
  refine X.iconst (pc := 6) dX10_forget_6 ⟨by decide, by decide⟩ ?_
  refine X.putI (pc := 7) dX10_forget_7 fl_X10_214 rfl (fun h9 => by cases h9) (fs_X10 hW) (Or.inr (Or.inl rfl)) ?_
  refine X.vret (pc := 10) dX10_forget_10 rfl (Nat.le_of_ble_eq_true rfl) (Nat.le_of_ble_eq_true rfl) ?_
  refine X.nrm (pc' := 9) (ls' := [(0, vR 265), (1, vI ((μ) 265 0))]) (st' := []) (k' := 0) (n' := 0) rfl rfl rfl rfl rfl ?_
  refine X.aload_n (pc := 9) (i := 0) 0 dX10_clear_9 rfl rfl ?_
  refine X.iconst (pc := 10) dX10_clear_10 ⟨by decide, by decide⟩ ?_
  refine X.putI (pc := 11) dX10_clear_11 fl_X10_128 rfl (fun h9 => by cases h9) (fs_X10 hW) (Or.inl rfl) ?_
  refine X.aload_n (pc := 14) (i := 0) 0 dX10_clear_14 rfl rfl ?_
  refine X.iconst (pc := 15) dX10_clear_15 ⟨by decide, by decide⟩ ?_
  refine X.putI (pc := 16) dX10_clear_16 fl_X10_151 rfl (fun h9 => by cases h9) (fs_X10 hW) (Or.inl rfl) ?_
  refine X.aload_n (pc := 19) (i := 0) 0 dX10_clear_19 rfl rfl ?_
  refine X.iconst (pc := 20) dX10_clear_20 ⟨by decide, by decide⟩ ?_
  refine X.putI (pc := 21) dX10_clear_21 fl_X10_164 rfl (fun h9 => by cases h9) (fs_X10 hW) (Or.inl rfl) ?_
  refine X.aload_n (pc := 24) (i := 0) 0 dX10_clear_24 rfl rfl ?_
  refine X.iconst (pc := 25) dX10_clear_25 ⟨by decide, by decide⟩ ?_
  refine X.putI (pc := 26) dX10_clear_26 fl_X10_167 rfl (fun h9 => by cases h9) (fs_X10 hW) (Or.inl rfl) ?_
  refine X.aload_n (pc := 29) (i := 0) 0 dX10_clear_29 rfl rfl ?_
  refine X.iconst (pc := 30) dX10_clear_30 ⟨by decide, by decide⟩ ?_
  refine X.putI (pc := 31) dX10_clear_31 fl_X10_170 rfl (fun h9 => by cases h9) (fs_X10 hW) (Or.inl rfl) ?_
  refine X.iload_n (pc := 34) (i := 1) 1 dX10_clear_34 rfl rfl ?_
  exact X.iret (pc := 35) dX10_clear_35 rfl (Nat.le_of_ble_eq_true rfl) (Nat.le_of_ble_eq_true rfl) h

theorem g_X10_at_0 {sh : List (Nat × Nat)} {ν : Nat → Nat → Option Nat} {μ : Nat → Nat → Int} {f s : Nat} {Q : xQ} (hW : WF sh ν f s) {x1 : Int} {x2 : Int}
    (h : ((¬ (0 ≤ x1 ∧ x1 ≤ (w32 (((μ) 265 18) - 1))) → Q (some (vI (-9))) sh (ν) (μ)) ∧ ((0 ≤ x1 ∧ x1 ≤ (w32 (((μ) 265 18) - 1))) → ((¬ (0 ≤ x2 ∧ x2 ≤ (w32 (((μ) 265 19) - 1))) → Q (some (vI (-9))) sh (ν) (μ)) ∧ ((0 ≤ x2 ∧ x2 ≤ (w32 (((μ) 265 19) - 1))) → (0 ≤ (w32 ((w32 (20 * x2)) + x1)) ∧ (w32 ((w32 (20 * x2)) + x1)) < (400 : Nat)) ∧ Q (some (vI ((μ) 282 (Int.toNat (w32 ((w32 (20 * x2)) + x1)))))) sh (ν) (μ)))))) :
    X mX10_at 0 [(0, vR 265), (1, vI x1), (2, vI x2)] [] sh ν μ 0 0 Q := by
  refine X.iload_n (pc := 0) (i := 1) 1 dX10_at_0 rfl rfl ?_
  refine X.i2l (pc := 1) dX10_at_1 ?_
  refine X.lconst (pc := 2) (y := 0) dX10_at_2 rfl ⟨by decide, by decide⟩ ?_
  refine X.aload_n (pc := 3) (i := 0) 0 dX10_at_3 rfl rfl ?_
  refine X.getI (pc := 4) dX10_at_4 fl_X10_164 rfl (fs_X10 hW) ?_
  refine X.iconst (pc := 7) dX10_at_7 ⟨by decide, by decide⟩ ?_
  refine X.isub (pc := 8) dX10_at_8 ?_
  refine X.i2l (pc := 9) dX10_at_9 ?_
  refine X.callS (pc := 10) (vs := [vL x1, vL 0, vL (w32 (((μ) 265 18) - 1))]) (st := []) dX10_at_10 rfl okM_X10_in rfl lk_X10_124 stat_X10_in ⟨⟨by decide, by decide⟩, ⟨by decide, by decide⟩, Nat.le_of_ble_eq_true rfl⟩ (Nat.le_of_ble_eq_true rfl) (c_X10_in hW ?_)
  refine X.nrm (pc' := 13) (ls' := [(0, vR 265), (1, vI x1), (2, vI x2)]) (st' := [vI (bI (0 ≤ x1 ∧ x1 ≤ (w32 (((μ) 265 18) - 1))))]) (k' := 0) (n' := 0) rfl rfl rfl rfl rfl ?_
  refine X.if_eq (pc := 13) 46 dX10_at_13 (by decide) ⟨fun q9 => ?_, fun q9 => ?_⟩
  · have h := h.1 (bI_eq.mp q9)
    refine X.bipush (pc := 46) (y := -9) dX10_at_46 rfl ⟨by decide, by decide⟩ ?_
    exact X.iret (pc := 48) dX10_at_48 rfl (Nat.le_of_ble_eq_true rfl) (Nat.le_of_ble_eq_true rfl) h
  · have h := h.2 (bI_ne.mp q9)
    refine X.iload_n (pc := 16) (i := 2) 2 dX10_at_16 rfl rfl ?_
    refine X.i2l (pc := 17) dX10_at_17 ?_
    refine X.lconst (pc := 18) (y := 0) dX10_at_18 rfl ⟨by decide, by decide⟩ ?_
    refine X.aload_n (pc := 19) (i := 0) 0 dX10_at_19 rfl rfl ?_
    refine X.getI (pc := 20) dX10_at_20 fl_X10_167 rfl (fs_X10 hW) ?_
    refine X.iconst (pc := 23) dX10_at_23 ⟨by decide, by decide⟩ ?_
    refine X.isub (pc := 24) dX10_at_24 ?_
    refine X.i2l (pc := 25) dX10_at_25 ?_
    refine X.callS (pc := 26) (vs := [vL x2, vL 0, vL (w32 (((μ) 265 19) - 1))]) (st := []) dX10_at_26 rfl okM_X10_in rfl lk_X10_124 stat_X10_in ⟨⟨by decide, by decide⟩, ⟨by decide, by decide⟩, Nat.le_of_ble_eq_true rfl⟩ (Nat.le_of_ble_eq_true rfl) (c_X10_in hW ?_)
    refine X.nrm (pc' := 29) (ls' := [(0, vR 265), (1, vI x1), (2, vI x2)]) (st' := [vI (bI (0 ≤ x2 ∧ x2 ≤ (w32 (((μ) 265 19) - 1))))]) (k' := 0) (n' := 0) rfl rfl rfl rfl rfl ?_
    refine X.if_eq (pc := 29) 46 dX10_at_29 (by decide) ⟨fun q9 => ?_, fun q9 => ?_⟩
    · have h := h.1 (bI_eq.mp q9)
      refine X.bipush (pc := 46) (y := -9) dX10_at_46 rfl ⟨by decide, by decide⟩ ?_
      exact X.iret (pc := 48) dX10_at_48 rfl (Nat.le_of_ble_eq_true rfl) (Nat.le_of_ble_eq_true rfl) h
    · have h := h.2 (bI_ne.mp q9)
      refine X.aload_n (pc := 32) (i := 0) 0 dX10_at_32 rfl rfl ?_
      refine X.getR (pc := 33) (b := 282) dX10_at_33 fl_X10_59 rfl (fs_X10 hW) (fp_X10_23 hW) ?_
      refine X.bipush (pc := 36) (y := 20) dX10_at_36 rfl ⟨by decide, by decide⟩ ?_
      refine X.iload_n (pc := 38) (i := 2) 2 dX10_at_38 rfl rfl ?_
      refine X.imul (pc := 39) dX10_at_39 ?_
      refine X.iload_n (pc := 40) (i := 1) 1 dX10_at_40 rfl rfl ?_
      refine X.iadd (pc := 41) dX10_at_41 ?_
      obtain ⟨c1, h⟩ := h
      refine X.iaload (pc := 42) dX10_at_42 (fa_X10_23 hW) c1 ?_
      refine X.goto (pc := 43) (tgt := 48) dX10_at_43 (by decide) ?_
      exact X.iret (pc := 48) dX10_at_48 rfl (Nat.le_of_ble_eq_true rfl) (Nat.le_of_ble_eq_true rfl) h

theorem g_X10_step_0 {sh : List (Nat × Nat)} {ν : Nat → Nat → Option Nat} {μ : Nat → Nat → Int} {f s : Nat} {Q : xQ} (hW : WF sh ν f s) {x1 : Int}
    (h : ((¬ (0 ≤ x1 ∧ x1 ≤ (w32 (((μ) 265 20) - 1))) → Q (some (vI (-9))) sh (ν) (μ)) ∧ ((0 ≤ x1 ∧ x1 ≤ (w32 (((μ) 265 20) - 1))) → (0 ≤ x1 ∧ x1 < (8000 : Nat)) ∧ Q (some (vI ((μ) 281 (Int.toNat x1)))) sh (ν) (μ)))) :
    X mX10_step 0 [(0, vR 265), (1, vI x1)] [] sh ν μ 0 0 Q := by
  refine X.iload_n (pc := 0) (i := 1) 1 dX10_step_0 rfl rfl ?_
  refine X.i2l (pc := 1) dX10_step_1 ?_
  refine X.lconst (pc := 2) (y := 0) dX10_step_2 rfl ⟨by decide, by decide⟩ ?_
  refine X.aload_n (pc := 3) (i := 0) 0 dX10_step_3 rfl rfl ?_
  refine X.getI (pc := 4) dX10_step_4 fl_X10_170 rfl (fs_X10 hW) ?_
  refine X.iconst (pc := 7) dX10_step_7 ⟨by decide, by decide⟩ ?_
  refine X.isub (pc := 8) dX10_step_8 ?_
  refine X.i2l (pc := 9) dX10_step_9 ?_
  refine X.callS (pc := 10) (vs := [vL x1, vL 0, vL (w32 (((μ) 265 20) - 1))]) (st := []) dX10_step_10 rfl okM_X10_in rfl lk_X10_124 stat_X10_in ⟨⟨by decide, by decide⟩, ⟨by decide, by decide⟩, Nat.le_of_ble_eq_true rfl⟩ (Nat.le_of_ble_eq_true rfl) (c_X10_in hW ?_)
  refine X.nrm (pc' := 13) (ls' := [(0, vR 265), (1, vI x1)]) (st' := [vI (bI (0 ≤ x1 ∧ x1 ≤ (w32 (((μ) 265 20) - 1))))]) (k' := 0) (n' := 0) rfl rfl rfl rfl rfl ?_
  refine X.if_eq (pc := 13) 25 dX10_step_13 (by decide) ⟨fun q9 => ?_, fun q9 => ?_⟩
  · have h := h.1 (bI_eq.mp q9)
    refine X.bipush (pc := 25) (y := -9) dX10_step_25 rfl ⟨by decide, by decide⟩ ?_
    exact X.iret (pc := 27) dX10_step_27 rfl (Nat.le_of_ble_eq_true rfl) (Nat.le_of_ble_eq_true rfl) h
  · have h := h.2 (bI_ne.mp q9)
    refine X.aload_n (pc := 16) (i := 0) 0 dX10_step_16 rfl rfl ?_
    refine X.getR (pc := 17) (b := 281) dX10_step_17 fl_X10_56 rfl (fs_X10 hW) (fp_X10_21 hW) ?_
    refine X.iload_n (pc := 20) (i := 1) 1 dX10_step_20 rfl rfl ?_
    obtain ⟨c1, h⟩ := h
    refine X.iaload (pc := 21) dX10_step_21 (fa_X10_21 hW) c1 ?_
    refine X.goto (pc := 22) (tgt := 27) dX10_step_22 (by decide) ?_
    exact X.iret (pc := 27) dX10_step_27 rfl (Nat.le_of_ble_eq_true rfl) (Nat.le_of_ble_eq_true rfl) h

theorem g_X10_isPlace_0 {sh : List (Nat × Nat)} {ν : Nat → Nat → Option Nat} {μ : Nat → Nat → Int} {f s : Nat} {Q : xQ} (hW : WF sh ν f s) {x1 : Int}
    (h : ((¬ (0 ≤ x1 ∧ x1 ≤ 80) → Q (some (vI 0)) sh (ν) (μ)) ∧ ((0 ≤ x1 ∧ x1 ≤ 80) → ((((μ) 265 35) ≤ (w32 (Int.tmod x1 9)) → Q (some (vI 0)) sh (ν) (μ)) ∧ ((w32 (Int.tmod x1 9)) < ((μ) 265 35) → ((((μ) 265 36) ≤ (w32 (Int.tdiv x1 9)) → Q (some (vI 0)) sh (ν) (μ)) ∧ ((w32 (Int.tdiv x1 9)) < ((μ) 265 36) → Q (some (vI 1)) sh (ν) (μ)))))))) :
    X mX10_isPlace 0 [(0, vR 265), (1, vI x1)] [] sh ν μ 0 0 Q := by
  refine X.iload_n (pc := 0) (i := 1) 1 dX10_isPlace_0 rfl rfl ?_
  refine X.i2l (pc := 1) dX10_isPlace_1 ?_
  refine X.lconst (pc := 2) (y := 0) dX10_isPlace_2 rfl ⟨by decide, by decide⟩ ?_
  refine X.ldc2 (pc := 3) (y := 80) dX10_isPlace_3 kc_X10_224 rfl ⟨by decide, by decide⟩ ?_
  refine X.callS (pc := 6) (vs := [vL x1, vL 0, vL 80]) (st := []) dX10_isPlace_6 rfl okM_X10_in rfl lk_X10_124 stat_X10_in ⟨⟨by decide, by decide⟩, ⟨by decide, by decide⟩, Nat.le_of_ble_eq_true rfl⟩ (Nat.le_of_ble_eq_true rfl) (c_X10_in hW ?_)
  refine X.nrm (pc' := 9) (ls' := [(0, vR 265), (1, vI x1)]) (st' := [vI (bI (0 ≤ x1 ∧ x1 ≤ 80))]) (k' := 0) (n' := 0) rfl rfl rfl rfl rfl ?_
  refine X.if_eq (pc := 9) 38 dX10_isPlace_9 (by decide) ⟨fun q9 => ?_, fun q9 => ?_⟩
  · have h := h.1 (bI_eq.mp q9)
    refine X.iconst (pc := 38) dX10_isPlace_38 ⟨by decide, by decide⟩ ?_
    exact X.zret (pc := 39) dX10_isPlace_39 rfl (by decide) (Nat.le_of_ble_eq_true rfl) (Nat.le_of_ble_eq_true rfl) h
  · have h := h.2 (bI_ne.mp q9)
    refine X.iload_n (pc := 12) (i := 1) 1 dX10_isPlace_12 rfl rfl ?_
    refine X.bipush (pc := 13) (y := 9) dX10_isPlace_13 rfl ⟨by decide, by decide⟩ ?_
    refine X.irem (pc := 15) dX10_isPlace_15 (by decide) ?_
    refine X.aload_n (pc := 16) (i := 0) 0 dX10_isPlace_16 rfl rfl ?_
    refine X.getI (pc := 17) dX10_isPlace_17 fl_X10_218 rfl (fs_X10 hW) ?_
    refine X.icmp_ge (pc := 20) 38 dX10_isPlace_20 (by decide) ⟨fun q9 => ?_, fun q9 => ?_⟩
    · have h := h.1 q9
      refine X.iconst (pc := 38) dX10_isPlace_38 ⟨by decide, by decide⟩ ?_
      exact X.zret (pc := 39) dX10_isPlace_39 rfl (by decide) (Nat.le_of_ble_eq_true rfl) (Nat.le_of_ble_eq_true rfl) h
    · have h := h.2 q9
      refine X.iload_n (pc := 23) (i := 1) 1 dX10_isPlace_23 rfl rfl ?_
      refine X.bipush (pc := 24) (y := 9) dX10_isPlace_24 rfl ⟨by decide, by decide⟩ ?_
      refine X.idiv (pc := 26) dX10_isPlace_26 (by decide) ?_
      refine X.aload_n (pc := 27) (i := 0) 0 dX10_isPlace_27 rfl rfl ?_
      refine X.getI (pc := 28) dX10_isPlace_28 fl_X10_221 rfl (fs_X10 hW) ?_
      refine X.icmp_ge (pc := 31) 38 dX10_isPlace_31 (by decide) ⟨fun q9 => ?_, fun q9 => ?_⟩
      · have h := h.1 q9
        refine X.iconst (pc := 38) dX10_isPlace_38 ⟨by decide, by decide⟩ ?_
        exact X.zret (pc := 39) dX10_isPlace_39 rfl (by decide) (Nat.le_of_ble_eq_true rfl) (Nat.le_of_ble_eq_true rfl) h
      · have h := h.2 q9
        refine X.iconst (pc := 34) dX10_isPlace_34 ⟨by decide, by decide⟩ ?_
        refine X.goto (pc := 35) (tgt := 39) dX10_isPlace_35 (by decide) ?_
        exact X.zret (pc := 39) dX10_isPlace_39 rfl (by decide) (Nat.le_of_ble_eq_true rfl) (Nat.le_of_ble_eq_true rfl) h

theorem g_J7_fill_eb02e_0 {sh : List (Nat × Nat)} {ν : Nat → Nat → Option Nat} {μ : Nat → Nat → Int} {f s : Nat} {Q : xQ} (hW : WF sh ν f s) {p0 np0 : Nat} (hp0 : sh[p0]? = some (2, np0)) {x1 : Int} {x2 : Int} {x3 : Int}
    (h : (np0 ≤ 2147483647) ∧ (0 ≤ x1 ∧ x1 ≤ x2 ∧ x2 ≤ (np0 : Nat)) ∧ X mJ7_fill_eb02e 10 [(0, vR p0), (2, vI x2), (3, vI x3), (4, vI x1)] [] sh (ν) (μ) 0 0 Q) :
    X mJ7_fill_eb02e 0 [(0, vR p0), (1, vI x1), (2, vI x2), (3, vI x3)] [] sh ν μ 0 0 Q := by
  refine X.aload_n (pc := 0) (i := 0) 0 dJ7_fill_eb02e_0 rfl rfl ?_
  obtain ⟨c1, h⟩ := h
  refine X.alen (pc := 1) dJ7_fill_eb02e_1 hp0 (by decide) c1 ?_
  refine X.iload_n (pc := 2) (i := 1) 1 dJ7_fill_eb02e_2 rfl rfl ?_
  refine X.iload_n (pc := 3) (i := 2) 2 dJ7_fill_eb02e_3 rfl rfl ?_
  obtain ⟨c2, h⟩ := h
  refine X.callS (pc := 4) (vs := [vI (np0 : Nat), vI x1, vI x2]) (st := []) dJ7_fill_eb02e_4 rfl okM_J7_rangeCheck_23922 rfl lk_J7_13 stat_J7_rangeCheck_23922 ⟨⟨by decide, by decide⟩, ⟨by decide, by decide⟩, Nat.le_of_ble_eq_true rfl⟩ (Nat.le_of_ble_eq_true rfl) (c_J7_rangeCheck_23922 hW c2 ?_)
  refine X.nrm (pc' := 7) (ls' := [(0, vR p0), (1, vI x1), (2, vI x2), (3, vI x3)]) (st' := []) (k' := 0) (n' := 0) rfl rfl rfl rfl rfl ?_
  refine X.iload_n (pc := 7) (i := 1) 1 dJ7_fill_eb02e_7 rfl rfl ?_
  refine X.istore (pc := 8) (i := 4) (ls' := [(4, vI x1), (0, vR p0), (1, vI x1), (2, vI x2), (3, vI x3)]) dJ7_fill_eb02e_8 (by decide) rfl ?_
  exact X.pick [1, 3, 4, 0] rfl h

theorem g_J7_fill_eb02e_10 {sh : List (Nat × Nat)} {ν : Nat → Nat → Option Nat} {μ : Nat → Nat → Int} {f s : Nat} {Q : xQ} (hW : WF sh ν f s) {p0 np0 : Nat} (hp0 : sh[p0]? = some (2, np0)) {x2 : Int} {x3 : Int} {x4 : Int}
    (h : ((x2 ≤ x4 → Q none sh (ν) (μ)) ∧ (x4 < x2 → (0 ≤ x4 ∧ x4 < (np0 : Nat)) ∧ X mJ7_fill_eb02e 10 [(0, vR p0), (2, vI x2), (3, vI x3), (4, vI (w32 (x4 + 1)))] [] sh (ν) (up μ p0 (Int.toNat x4) (w8 x3)) 0 0 Q))) :
    X mJ7_fill_eb02e 10 [(0, vR p0), (2, vI x2), (3, vI x3), (4, vI x4)] [] sh ν μ 0 0 Q := by
  refine X.iload (pc := 10) (i := 4) 3 dJ7_fill_eb02e_10 rfl ?_
  refine X.iload_n (pc := 12) (i := 2) 1 dJ7_fill_eb02e_12 rfl rfl ?_
  refine X.icmp_ge (pc := 13) 27 dJ7_fill_eb02e_13 (by decide) ⟨fun q9 => ?_, fun q9 => ?_⟩
  · have h := h.1 q9
    exact X.vret (pc := 27) dJ7_fill_eb02e_27 rfl (Nat.le_of_ble_eq_true rfl) (Nat.le_of_ble_eq_true rfl) h
  · have h := h.2 q9
    refine X.aload_n (pc := 16) (i := 0) 0 dJ7_fill_eb02e_16 rfl rfl ?_
    refine X.iload (pc := 17) (i := 4) 3 dJ7_fill_eb02e_17 rfl ?_
    refine X.iload_n (pc := 19) (i := 3) 2 dJ7_fill_eb02e_19 rfl rfl ?_
    obtain ⟨c1, h⟩ := h
    refine X.bastore (pc := 20) dJ7_fill_eb02e_20 hp0 c1 ?_
    refine X.iinc (pc := 21) (i := 4) (ls' := [(4, vI (w32 (x4 + 1))), (0, vR p0), (2, vI x2), (3, vI x3)]) 3 dJ7_fill_eb02e_21 rfl (by decide) rfl ?_
    refine X.goto (pc := 24) (tgt := 10) dJ7_fill_eb02e_24 (by decide) ?_
    exact X.pick [1, 2, 3, 0] rfl h

