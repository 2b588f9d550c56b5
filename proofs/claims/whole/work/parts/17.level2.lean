theorem g_X1_settle_0 {sh : List (Nat × Nat)} {ν : Nat → Nat → Option Nat} {μ : Nat → Nat → Int} {f s : Nat} {Q : xQ} (hW : WF sh ν f s) {p0 : Nat} (hp0 : isChart p0) {x1 : Int} {x2 : Int} {x3 : Int} {x4 : Int} {x5 : Int}
    (h : ((((μ) p0 13) = 0 → X mX1_settle 28 [(0, vR p0), (1, vI x1), (2, vI x2), (3, vI x3), (4, vI x4), (5, vI x5)] [] sh (ν) (μ) 0 0 Q) ∧ (((μ) p0 13) ≠ 0 → ((nsp p0 * nsp p0) ≤ 2147483646) ∧ ((nsp p0 * nsp p0) ≤ 2147483646) ∧ X mX1_settle 28 [(0, vR p0), (1, vI x1), (2, vI x2), (3, vI x3), (4, vI x4), (5, vI x5)] [] sh (ν) (up (filA (filA μ (p0 + 13) 0 (nsp p0 * nsp p0) 0) (p0 + 14) 0 (nsp p0 * nsp p0) 0) p0 13 0) 0 0 Q))) :
    X mX1_settle 0 [(0, vR p0), (1, vI x1), (2, vI x2), (3, vI x3), (4, vI x4), (5, vI x5)] [] sh ν μ 0 0 Q := by
  refine X.aload_n (pc := 0) (i := 0) 0 dX1_settle_0 rfl rfl ?_
  refine X.getI (pc := 1) dX1_settle_1 fl_X1_18 rfl (fs_X1 hW hp0) ?_
  refine X.if_eq (pc := 4) 28 dX1_settle_4 (by decide) ⟨fun q9 => ?_, fun q9 => ?_⟩
  · have h := h.1 q9
    exact h
  · have h := h.2 q9
    refine X.aload_n (pc := 7) (i := 0) 0 dX1_settle_7 rfl rfl ?_
    refine X.getR (pc := 8) (b := (p0 + 13)) dX1_settle_8 fl_X1_48 rfl (fs_X1 hW hp0) (fp_X1_7 hW hp0) ?_
    refine X.iconst (pc := 11) dX1_settle_11 ⟨by decide, by decide⟩ ?_
    obtain ⟨c1, h⟩ := h
    refine X.callS (pc := 12) (vs := [vR (p0 + 13), vI 0]) (st := []) dX1_settle_12 rfl okM_J7_fill_53178 rfl lk_X1_65 stat_J7_fill_53178 ⟨⟨by decide, by decide⟩, ⟨by decide, by decide⟩, Nat.le_of_ble_eq_true rfl⟩ (Nat.le_of_ble_eq_true rfl) (c_J7_fill_53178 hW (fa_X1_7 hW hp0) c1 ?_)
    refine X.nrm (pc' := 15) (ls' := [(0, vR p0), (1, vI x1), (2, vI x2), (3, vI x3), (4, vI x4), (5, vI x5)]) (st' := []) (k' := 0) (n' := 0) rfl rfl rfl rfl rfl ?_
    refine X.aload_n (pc := 15) (i := 0) 0 dX1_settle_15 rfl rfl ?_
    refine X.getR (pc := 16) (b := (p0 + 14)) dX1_settle_16 fl_X1_51 rfl (fs_X1 hW hp0) (fp_X1_8 hW hp0) ?_
    refine X.iconst (pc := 19) dX1_settle_19 ⟨by decide, by decide⟩ ?_
    obtain ⟨c2, h⟩ := h
    refine X.callS (pc := 20) (vs := [vR (p0 + 14), vI 0]) (st := []) dX1_settle_20 rfl okM_J7_fill_53178 rfl lk_X1_65 stat_J7_fill_53178 ⟨⟨by decide, by decide⟩, ⟨by decide, by decide⟩, Nat.le_of_ble_eq_true rfl⟩ (Nat.le_of_ble_eq_true rfl) (c_J7_fill_53178 hW (fa_X1_8 hW hp0) c2 ?_)
    refine X.nrm (pc' := 23) (ls' := [(0, vR p0), (1, vI x1), (2, vI x2), (3, vI x3), (4, vI x4), (5, vI x5)]) (st' := []) (k' := 0) (n' := 0) rfl rfl rfl rfl rfl ?_
    refine X.aload_n (pc := 23) (i := 0) 0 dX1_settle_23 rfl rfl ?_
    refine X.iconst (pc := 24) dX1_settle_24 ⟨by decide, by decide⟩ ?_
    refine X.putI (pc := 25) dX1_settle_25 fl_X1_18 rfl (fun h9 => by cases h9) (fs_X1 hW hp0) (Or.inr (Or.inl rfl)) ?_
    exact h

theorem g_X1_settle_28 {sh : List (Nat × Nat)} {ν : Nat → Nat → Option Nat} {μ : Nat → Nat → Int} {f s : Nat} {Q : xQ} (hW : WF sh ν f s) {p0 : Nat} (hp0 : isChart p0) {x1 : Int} {x2 : Int} {x3 : Int} {x4 : Int} {x5 : Int}
    (h : (0 ≤ x2 ∧ x2 ≤ 20) ∧ (1 ≤ x4 ∧ x4 ≤ 20) ∧ (0 ≤ x3 ∧ x3 ≤ 20) ∧ (1 ≤ x5 ∧ x5 ≤ 20) ∧ (((w32 ((w32 ((spF ((μ) p0 3) x2 x4) * ((μ) p0 4))) + (spF ((μ) p0 3) x3 x5))) < 0 → Q (some (vI (-9))) sh (ν) (μ)) ∧ (0 ≤ (w32 ((w32 ((spF ((μ) p0 3) x2 x4) * ((μ) p0 4))) + (spF ((μ) p0 3) x3 x5))) → ((nsp p0 * nsp p0) ≤ 2147483647) ∧ ((((nsp p0 * nsp p0) : Nat) ≤ (w32 ((w32 ((spF ((μ) p0 3) x2 x4) * ((μ) p0 4))) + (spF ((μ) p0 3) x3 x5))) → Q (some (vI (-9))) sh (ν) (μ)) ∧ ((w32 ((w32 ((spF ((μ) p0 3) x2 x4) * ((μ) p0 4))) + (spF ((μ) p0 3) x3 x5))) < ((nsp p0 * nsp p0) : Nat) → (((0 ≤ x1 ∧ x1 ≤ 7) → (0 ≤ (w32 ((w32 ((spF ((μ) p0 3) x2 x4) * ((μ) p0 4))) + (spF ((μ) p0 3) x3 x5))) ∧ (w32 ((w32 ((spF ((μ) p0 3) x2 x4) * ((μ) p0 4))) + (spF ((μ) p0 3) x3 x5))) < ((nsp p0 * nsp p0) : Nat)) ∧ (0 ≤ (w32 ((w32 ((spF ((μ) p0 3) x2 x4) * ((μ) p0 4))) + (spF ((μ) p0 3) x3 x5))) ∧ (w32 ((w32 ((spF ((μ) p0 3) x2 x4) * ((μ) p0 4))) + (spF ((μ) p0 3) x3 x5))) < ((nsp p0 * nsp p0) : Nat)) ∧ (0 ≤ (w32 ((w32 ((spF ((μ) p0 3) x2 x4) * ((μ) p0 4))) + (spF ((μ) p0 3) x3 x5))) ∧ (w32 ((w32 ((spF ((μ) p0 3) x2 x4) * ((μ) p0 4))) + (spF ((μ) p0 3) x3 x5))) < ((nsp p0 * nsp p0) : Nat)) ∧ (((xand (xshr ((μ) (p0 + 14) (Int.toNat (w32 ((w32 ((spF ((μ) p0 3) x2 x4) * ((μ) p0 4))) + (spF ((μ) p0 3) x3 x5))))) x1) 1) ≠ 0 → Q (some (vI (w32 ((w32 ((w32 ((w32 ((spF ((μ) p0 3) x2 x4) * ((μ) p0 4))) + (spF ((μ) p0 3) x3 x5))) * 8)) + x1)))) sh (ν) (up μ (p0 + 13) (Int.toNat (w32 ((w32 ((spF ((μ) p0 3) x2 x4) * ((μ) p0 4))) + (spF ((μ) p0 3) x3 x5)))) (xor_ ((μ) (p0 + 13) (Int.toNat (w32 ((w32 ((spF ((μ) p0 3) x2 x4) * ((μ) p0 4))) + (spF ((μ) p0 3) x3 x5))))) (xshl 1 x1)))) ∧ ((xand (xshr ((μ) (p0 + 14) (Int.toNat (w32 ((w32 ((spF ((μ) p0 3) x2 x4) * ((μ) p0 4))) + (spF ((μ) p0 3) x3 x5))))) x1) 1) = 0 → X mX1_settle 106 [(0, vR p0), (1, vI x1), (6, vI (w32 ((w32 ((spF ((μ) p0 3) x2 x4) * ((μ) p0 4))) + (spF ((μ) p0 3) x3 x5)))), (7, vI (w32 ((w32 ((spF ((μ) p0 3) x2 x4) * ((μ) p0 4))) + (spF ((μ) p0 3) x3 x5))))] [] sh (ν) (up μ (p0 + 13) (Int.toNat (w32 ((w32 ((spF ((μ) p0 3) x2 x4) * ((μ) p0 4))) + (spF ((μ) p0 3) x3 x5)))) (xor_ ((μ) (p0 + 13) (Int.toNat (w32 ((w32 ((spF ((μ) p0 3) x2 x4) * ((μ) p0 4))) + (spF ((μ) p0 3) x3 x5))))) (xshl 1 x1))) 0 0 Q))) ∧ (¬ (0 ≤ x1 ∧ x1 ≤ 7) → Q (some (vI (-9))) sh (ν) (μ)))))))) :
    X mX1_settle 28 [(0, vR p0), (1, vI x1), (2, vI x2), (3, vI x3), (4, vI x4), (5, vI x5)] [] sh ν μ 0 0 Q := by
  refine X.aload_n (pc := 28) (i := 0) 0 dX1_settle_28 rfl rfl ?_
  refine X.iload_n (pc := 29) (i := 2) 2 dX1_settle_29 rfl rfl ?_
  refine X.iload (pc := 30) (i := 4) 4 dX1_settle_30 rfl ?_
  refine X.pick [0, 1, 3, 5] rfl ?_
  obtain ⟨c1, h⟩ := h
  obtain ⟨c2, h⟩ := h
  refine X.callV (pc := 32) (vs := [vI x2, vI x4]) (st := []) dX1_settle_32 rfl okM_X1_spanOf rfl lk_X1_71 inst_X1_spanOf sel_X1_spanOf (fs_X1 hW hp0) rfl ⟨⟨by decide, by decide⟩, ⟨by decide, by decide⟩, Nat.le_of_ble_eq_true rfl⟩ (Nat.le_of_ble_eq_true rfl) (c_X1_spanOf hW hp0 c1 c2 ?_)
  refine X.nrm (pc' := 35) (ls' := [(0, vR p0), (1, vI x1), (3, vI x3), (5, vI x5)]) (st' := [vI (spF ((μ) p0 3) x2 x4)]) (k' := 0) (n' := 0) rfl rfl rfl rfl rfl ?_
  refine X.aload_n (pc := 35) (i := 0) 0 dX1_settle_35 rfl rfl ?_
  refine X.getI (pc := 36) dX1_settle_36 fl_X1_37 rfl (fs_X1 hW hp0) ?_
  refine X.imul (pc := 39) dX1_settle_39 ?_
  refine X.aload_n (pc := 40) (i := 0) 0 dX1_settle_40 rfl rfl ?_
  refine X.iload_n (pc := 41) (i := 3) 2 dX1_settle_41 rfl rfl ?_
  refine X.iload (pc := 42) (i := 5) 3 dX1_settle_42 rfl ?_
  refine X.pick [0, 1] rfl ?_
  obtain ⟨c3, h⟩ := h
  obtain ⟨c4, h⟩ := h
  refine X.callV (pc := 44) (vs := [vI x3, vI x5]) (st := [vI (w32 ((spF ((μ) p0 3) x2 x4) * ((μ) p0 4)))]) dX1_settle_44 rfl okM_X1_spanOf rfl lk_X1_71 inst_X1_spanOf sel_X1_spanOf (fs_X1 hW hp0) rfl ⟨⟨by decide, by decide⟩, ⟨by decide, by decide⟩, Nat.le_of_ble_eq_true rfl⟩ (Nat.le_of_ble_eq_true rfl) (c_X1_spanOf hW hp0 c3 c4 ?_)
  refine X.nrm (pc' := 47) (ls' := [(0, vR p0), (1, vI x1)]) (st' := [vI (spF ((μ) p0 3) x3 x5), vI (w32 ((spF ((μ) p0 3) x2 x4) * ((μ) p0 4)))]) (k' := 0) (n' := 0) rfl rfl rfl rfl rfl ?_
  refine X.iadd (pc := 47) dX1_settle_47 ?_
  refine X.istore (pc := 48) (i := 6) (ls' := [(6, vI (w32 ((w32 ((spF ((μ) p0 3) x2 x4) * ((μ) p0 4))) + (spF ((μ) p0 3) x3 x5)))), (0, vR p0), (1, vI x1)]) dX1_settle_48 (by decide) rfl ?_
  refine X.iload (pc := 50) (i := 6) 0 dX1_settle_50 rfl ?_
  refine X.if_lt (pc := 52) 72 dX1_settle_52 (by decide) ⟨fun q9 => ?_, fun q9 => ?_⟩
  · have h := h.1 q9
    refine X.bipush (pc := 72) (y := -9) dX1_settle_72 rfl ⟨by decide, by decide⟩ ?_
    exact X.iret (pc := 74) dX1_settle_74 rfl (Nat.le_of_ble_eq_true rfl) (Nat.le_of_ble_eq_true rfl) h
  · have h := h.2 q9
    refine X.iload (pc := 55) (i := 6) 0 dX1_settle_55 rfl ?_
    refine X.aload_n (pc := 57) (i := 0) 1 dX1_settle_57 rfl rfl ?_
    refine X.getR (pc := 58) (b := (p0 + 14)) dX1_settle_58 fl_X1_51 rfl (fs_X1 hW hp0) (fp_X1_8 hW hp0) ?_
    obtain ⟨c5, h⟩ := h
    refine X.alen (pc := 61) dX1_settle_61 (fa_X1_8 hW hp0) (by decide) c5 ?_
    refine X.icmp_ge (pc := 62) 72 dX1_settle_62 (by decide) ⟨fun q9 => ?_, fun q9 => ?_⟩
    · have h := h.1 q9
      refine X.bipush (pc := 72) (y := -9) dX1_settle_72 rfl ⟨by decide, by decide⟩ ?_
      exact X.iret (pc := 74) dX1_settle_74 rfl (Nat.le_of_ble_eq_true rfl) (Nat.le_of_ble_eq_true rfl) h
    · have h := h.2 q9
      refine X.iload_n (pc := 65) (i := 1) 2 dX1_settle_65 rfl rfl ?_
      refine X.pick [1, 2, 0] rfl ?_
      refine X.callSN (pc := 66) (vs := [vI x1]) (st := []) dX1_settle_66 rfl okM_X9_isName rfl nk_X1_75 stat_X9_isName ⟨⟨by decide, by decide⟩, ⟨by decide, by decide⟩, Nat.le_of_ble_eq_true rfl⟩ (Nat.le_of_ble_eq_true rfl) (c_X9_isName hW ?_)
      refine X.nrm (pc' := 69) (ls' := [(0, vR p0), (1, vI x1), (6, vI (w32 ((w32 ((spF ((μ) p0 3) x2 x4) * ((μ) p0 4))) + (spF ((μ) p0 3) x3 x5))))]) (st' := [vI (bI (0 ≤ x1 ∧ x1 ≤ 7))]) (k' := 0) (n' := 0) rfl rfl rfl rfl rfl ?_
      refine X.if_ne (pc := 69) 75 dX1_settle_69 (by decide) ⟨fun q9 => ?_, fun q9 => ?_⟩
      · have h := h.1 (bI_ne.mp q9)
        refine X.aload_n (pc := 75) (i := 0) 0 dX1_settle_75 rfl rfl ?_
        refine X.getR (pc := 76) (b := (p0 + 13)) dX1_settle_76 fl_X1_48 rfl (fs_X1 hW hp0) (fp_X1_7 hW hp0) ?_
        refine X.iload (pc := 79) (i := 6) 2 dX1_settle_79 rfl ?_
        refine X.dup2 (pc := 81) dX1_settle_81 rfl rfl ?_
        obtain ⟨c6, h⟩ := h
        refine X.iaload (pc := 82) dX1_settle_82 (fa_X1_7 hW hp0) c6 ?_
        refine X.iconst (pc := 83) dX1_settle_83 ⟨by decide, by decide⟩ ?_
        refine X.iload_n (pc := 84) (i := 1) 1 dX1_settle_84 rfl rfl ?_
        refine X.ishl (pc := 85) dX1_settle_85 ?_
        refine X.ior (pc := 86) dX1_settle_86 ?_
        obtain ⟨c7, h⟩ := h
        refine X.iastore (pc := 87) dX1_settle_87 (fa_X1_7 hW hp0) c7 ?_
        refine X.aload_n (pc := 88) (i := 0) 0 dX1_settle_88 rfl rfl ?_
        refine X.getR (pc := 89) (b := (p0 + 14)) dX1_settle_89 fl_X1_51 rfl (fs_X1 hW hp0) (fp_X1_8 hW hp0) ?_
        refine X.iload (pc := 92) (i := 6) 2 dX1_settle_92 rfl ?_
        obtain ⟨c8, h⟩ := h
        refine X.iaload (pc := 94) dX1_settle_94 (fa_X1_8 hW hp0) c8 ?_
        refine X.topI (y := ((μ) (p0 + 14) (Int.toNat (w32 ((w32 ((spF ((μ) p0 3) x2 x4) * ((μ) p0 4))) + (spF ((μ) p0 3) x3 x5)))))) ((up_a (by omega) _)) ?_
        refine X.iload_n (pc := 95) (i := 1) 1 dX1_settle_95 rfl rfl ?_
        refine X.ishr (pc := 96) dX1_settle_96 ?_
        refine X.iconst (pc := 97) dX1_settle_97 ⟨by decide, by decide⟩ ?_
        refine X.iand (pc := 98) dX1_settle_98 ?_
        refine X.if_ne (pc := 99) 145 dX1_settle_99 (by decide) ⟨fun q9 => ?_, fun q9 => ?_⟩
        · have h := h.1 q9
          refine X.iload (pc := 145) (i := 6) 2 dX1_settle_145 rfl ?_
          refine X.bipush (pc := 147) (y := 8) dX1_settle_147 rfl ⟨by decide, by decide⟩ ?_
          refine X.imul (pc := 149) dX1_settle_149 ?_
          refine X.iload_n (pc := 150) (i := 1) 1 dX1_settle_150 rfl rfl ?_
          refine X.iadd (pc := 151) dX1_settle_151 ?_
          exact X.iret (pc := 152) dX1_settle_152 rfl (Nat.le_of_ble_eq_true rfl) (Nat.le_of_ble_eq_true rfl) h
        · have h := h.2 q9
          refine X.iload (pc := 102) (i := 6) 2 dX1_settle_102 rfl ?_
          refine X.istore (pc := 104) (i := 7) (ls' := [(7, vI (w32 ((w32 ((spF ((μ) p0 3) x2 x4) * ((μ) p0 4))) + (spF ((μ) p0 3) x3 x5)))), (0, vR p0), (1, vI x1), (6, vI (w32 ((w32 ((spF ((μ) p0 3) x2 x4) * ((μ) p0 4))) + (spF ((μ) p0 3) x3 x5))))]) dX1_settle_104 (by decide) rfl ?_
          exact X.pick [1, 2, 3, 0] rfl h
      · have h := h.2 (bI_eq.mp q9)
        refine X.bipush (pc := 72) (y := -9) dX1_settle_72 rfl ⟨by decide, by decide⟩ ?_
        exact X.iret (pc := 74) dX1_settle_74 rfl (Nat.le_of_ble_eq_true rfl) (Nat.le_of_ble_eq_true rfl) h

theorem g_X1_settle_106 {sh : List (Nat × Nat)} {ν : Nat → Nat → Option Nat} {μ : Nat → Nat → Int} {f s : Nat} {Q : xQ} (hW : WF sh ν f s) {p0 : Nat} (hp0 : isChart p0) {x1 : Int} {x6 : Int} {x7 : Int}
    (h : ((x7 < 0 → X mX1_settle 126 [(0, vR p0), (1, vI x1), (6, vI x6), (7, vI 0)] [] sh (ν) (μ) 0 0 Q) ∧ (0 ≤ x7 → X mX1_askBelow 0 [(0, vR p0), (1, vI x7)] [] sh (ν) (μ) 0 0 (fun v sh' ν' μ' => X mX1_settle 117 [(0, vR p0), (1, vI x1), (6, vI x6), (7, vI x7)] (v.toList ++ []) sh' ν' μ' 0 0 Q)))) :
    X mX1_settle 106 [(0, vR p0), (1, vI x1), (6, vI x6), (7, vI x7)] [] sh ν μ 0 0 Q := by
  refine X.iload (pc := 106) (i := 7) 3 dX1_settle_106 rfl ?_
  refine X.if_lt (pc := 108) 123 dX1_settle_108 (by decide) ⟨fun q9 => ?_, fun q9 => ?_⟩
  · have h := h.1 q9
    refine X.iconst (pc := 123) dX1_settle_123 ⟨by decide, by decide⟩ ?_
    refine X.istore (pc := 124) (i := 7) (ls' := [(7, vI 0), (0, vR p0), (1, vI x1), (6, vI x6)]) dX1_settle_124 (by decide) rfl ?_
    exact X.pick [1, 2, 3, 0] rfl h
  · have h := h.2 q9
    refine X.aload_n (pc := 111) (i := 0) 0 dX1_settle_111 rfl rfl ?_
    refine X.iload (pc := 112) (i := 7) 3 dX1_settle_112 rfl ?_
    exact X.callV (pc := 114) (vs := [vI x7]) (st := []) dX1_settle_114 rfl okM_X1_askBelow rfl lk_X1_79 inst_X1_askBelow sel_X1_askBelow (fs_X1 hW hp0) rfl ⟨⟨by decide, by decide⟩, ⟨by decide, by decide⟩, Nat.le_of_ble_eq_true rfl⟩ (Nat.le_of_ble_eq_true rfl) h

theorem g_X1_settle_117 {sh : List (Nat × Nat)} {ν : Nat → Nat → Option Nat} {μ : Nat → Nat → Int} {f s : Nat} {Q : xQ} (hW : WF sh ν f s) {p0 : Nat} (hp0 : isChart p0) {x1 : Int} {x6 : Int} {x7 : Int}
    (h : X mX1_settle 106 [(0, vR p0), (1, vI x1), (6, vI x6), (7, vI (w32 (x7 + (-1))))] [] sh (ν) (μ) 0 0 Q) :
    X mX1_settle 117 [(0, vR p0), (1, vI x1), (6, vI x6), (7, vI x7)] [] sh ν μ 0 0 Q := by
  refine X.iinc (pc := 117) (i := 7) (ls' := [(7, vI (w32 (x7 + (-1)))), (0, vR p0), (1, vI x1), (6, vI x6)]) 3 dX1_settle_117 rfl (by decide) rfl ?_
  refine X.goto (pc := 120) (tgt := 106) dX1_settle_120 (by decide) ?_
  exact X.pick [1, 2, 3, 0] rfl h

theorem g_X1_settle_126 {sh : List (Nat × Nat)} {ν : Nat → Nat → Option Nat} {μ : Nat → Nat → Int} {f s : Nat} {Q : xQ} (hW : WF sh ν f s) {p0 : Nat} (hp0 : isChart p0) {x1 : Int} {x6 : Int} {x7 : Int}
    (h : ((x6 < x7 → Q (some (vI (w32 ((w32 (x6 * 8)) + x1)))) sh (ν) (μ)) ∧ (x7 ≤ x6 → X mX1_settleCell 0 [(0, vR p0), (1, vI x7)] [] sh (ν) (μ) 0 0 (fun v sh' ν' μ' => X mX1_settle 139 [(0, vR p0), (1, vI x1), (6, vI x6), (7, vI x7)] (v.toList ++ []) sh' ν' μ' 0 0 Q)))) :
    X mX1_settle 126 [(0, vR p0), (1, vI x1), (6, vI x6), (7, vI x7)] [] sh ν μ 0 0 Q := by
  refine X.iload (pc := 126) (i := 7) 3 dX1_settle_126 rfl ?_
  refine X.iload (pc := 128) (i := 6) 2 dX1_settle_128 rfl ?_
  refine X.icmp_gt (pc := 130) 145 dX1_settle_130 (by decide) ⟨fun q9 => ?_, fun q9 => ?_⟩
  · have h := h.1 q9
    refine X.iload (pc := 145) (i := 6) 2 dX1_settle_145 rfl ?_
    refine X.bipush (pc := 147) (y := 8) dX1_settle_147 rfl ⟨by decide, by decide⟩ ?_
    refine X.imul (pc := 149) dX1_settle_149 ?_
    refine X.iload_n (pc := 150) (i := 1) 1 dX1_settle_150 rfl rfl ?_
    refine X.iadd (pc := 151) dX1_settle_151 ?_
    exact X.iret (pc := 152) dX1_settle_152 rfl (Nat.le_of_ble_eq_true rfl) (Nat.le_of_ble_eq_true rfl) h
  · have h := h.2 q9
    refine X.aload_n (pc := 133) (i := 0) 0 dX1_settle_133 rfl rfl ?_
    refine X.iload (pc := 134) (i := 7) 3 dX1_settle_134 rfl ?_
    exact X.callV (pc := 136) (vs := [vI x7]) (st := []) dX1_settle_136 rfl okM_X1_settleCell rfl lk_X1_83 inst_X1_settleCell sel_X1_settleCell (fs_X1 hW hp0) rfl ⟨⟨by decide, by decide⟩, ⟨by decide, by decide⟩, Nat.le_of_ble_eq_true rfl⟩ (Nat.le_of_ble_eq_true rfl) h

theorem g_X1_settle_139 {sh : List (Nat × Nat)} {ν : Nat → Nat → Option Nat} {μ : Nat → Nat → Int} {f s : Nat} {Q : xQ} (hW : WF sh ν f s) {p0 : Nat} (hp0 : isChart p0) {x1 : Int} {x6 : Int} {x7 : Int}
    (h : X mX1_settle 126 [(0, vR p0), (1, vI x1), (6, vI x6), (7, vI (w32 (x7 + 1)))] [] sh (ν) (μ) 0 0 Q) :
    X mX1_settle 139 [(0, vR p0), (1, vI x1), (6, vI x6), (7, vI x7)] [] sh ν μ 0 0 Q := by
  refine X.iinc (pc := 139) (i := 7) (ls' := [(7, vI (w32 (x7 + 1))), (0, vR p0), (1, vI x1), (6, vI x6)]) 3 dX1_settle_139 rfl (by decide) rfl ?_
  refine X.goto (pc := 142) (tgt := 126) dX1_settle_142 (by decide) ?_
  exact X.pick [1, 2, 3, 0] rfl h

theorem g_X1_askBelow_0 {sh : List (Nat × Nat)} {ν : Nat → Nat → Option Nat} {μ : Nat → Nat → Int} {f s : Nat} {Q : xQ} (hW : WF sh ν f s) {p0 : Nat} (hp0 : isChart p0) {x1 : Int}
    (h : (((μ) p0 4) ≠ 0) ∧ (0 ≤ (w32 (Int.tdiv x1 ((μ) p0 4))) ∧ (w32 (Int.tdiv x1 ((μ) p0 4))) < (nsp p0 : Nat)) ∧ (((μ) p0 4) ≠ 0) ∧ (0 ≤ (w32 (Int.tmod x1 ((μ) p0 4))) ∧ (w32 (Int.tmod x1 ((μ) p0 4))) < (nsp p0 : Nat)) ∧ (0 ≤ x1 ∧ x1 < ((nsp p0 * nsp p0) : Nat)) ∧ X mX1_askBelow 35 [(0, vR p0), (1, vI x1), (2, vI ((μ) (p0 + 12) (Int.toNat (w32 (Int.tdiv x1 ((μ) p0 4)))))), (3, vI ((μ) (p0 + 12) (Int.toNat (w32 (Int.tmod x1 ((μ) p0 4)))))), (4, vI ((μ) (p0 + 14) (Int.toNat x1))), (5, vI 0)] [] sh (ν) (μ) 0 0 Q) :
    X mX1_askBelow 0 [(0, vR p0), (1, vI x1)] [] sh ν μ 0 0 Q := by
  refine X.aload_n (pc := 0) (i := 0) 0 dX1_askBelow_0 rfl rfl ?_
  refine X.getR (pc := 1) (b := (p0 + 12)) dX1_askBelow_1 fl_X1_45 rfl (fs_X1 hW hp0) (fp_X1_6 hW hp0) ?_
  refine X.iload_n (pc := 4) (i := 1) 1 dX1_askBelow_4 rfl rfl ?_
  refine X.aload_n (pc := 5) (i := 0) 0 dX1_askBelow_5 rfl rfl ?_
  refine X.getI (pc := 6) dX1_askBelow_6 fl_X1_37 rfl (fs_X1 hW hp0) ?_
  obtain ⟨c1, h⟩ := h
  refine X.idiv (pc := 9) dX1_askBelow_9 c1 ?_
  obtain ⟨c2, h⟩ := h
  refine X.iaload (pc := 10) dX1_askBelow_10 (fa_X1_6 hW hp0) c2 ?_
  refine X.istore_n (pc := 11) (i := 2) (ls' := [(2, vI ((μ) (p0 + 12) (Int.toNat (w32 (Int.tdiv x1 ((μ) p0 4)))))), (0, vR p0), (1, vI x1)]) dX1_askBelow_11 rfl (by decide) rfl ?_
  refine X.aload_n (pc := 12) (i := 0) 1 dX1_askBelow_12 rfl rfl ?_
  refine X.getR (pc := 13) (b := (p0 + 12)) dX1_askBelow_13 fl_X1_45 rfl (fs_X1 hW hp0) (fp_X1_6 hW hp0) ?_
  refine X.iload_n (pc := 16) (i := 1) 2 dX1_askBelow_16 rfl rfl ?_
  refine X.aload_n (pc := 17) (i := 0) 1 dX1_askBelow_17 rfl rfl ?_
  refine X.getI (pc := 18) dX1_askBelow_18 fl_X1_37 rfl (fs_X1 hW hp0) ?_
  obtain ⟨c3, h⟩ := h
  refine X.irem (pc := 21) dX1_askBelow_21 c3 ?_
  obtain ⟨c4, h⟩ := h
  refine X.iaload (pc := 22) dX1_askBelow_22 (fa_X1_6 hW hp0) c4 ?_
  refine X.istore_n (pc := 23) (i := 3) (ls' := [(3, vI ((μ) (p0 + 12) (Int.toNat (w32 (Int.tmod x1 ((μ) p0 4)))))), (2, vI ((μ) (p0 + 12) (Int.toNat (w32 (Int.tdiv x1 ((μ) p0 4)))))), (0, vR p0), (1, vI x1)]) dX1_askBelow_23 rfl (by decide) rfl ?_
  refine X.aload_n (pc := 24) (i := 0) 2 dX1_askBelow_24 rfl rfl ?_
  refine X.getR (pc := 25) (b := (p0 + 14)) dX1_askBelow_25 fl_X1_51 rfl (fs_X1 hW hp0) (fp_X1_8 hW hp0) ?_
  refine X.iload_n (pc := 28) (i := 1) 3 dX1_askBelow_28 rfl rfl ?_
  obtain ⟨c5, h⟩ := h
  refine X.iaload (pc := 29) dX1_askBelow_29 (fa_X1_8 hW hp0) c5 ?_
  refine X.istore (pc := 30) (i := 4) (ls' := [(4, vI ((μ) (p0 + 14) (Int.toNat x1))), (3, vI ((μ) (p0 + 12) (Int.toNat (w32 (Int.tmod x1 ((μ) p0 4)))))), (2, vI ((μ) (p0 + 12) (Int.toNat (w32 (Int.tdiv x1 ((μ) p0 4)))))), (0, vR p0), (1, vI x1)]) dX1_askBelow_30 (by decide) rfl ?_
  refine X.iconst (pc := 32) dX1_askBelow_32 ⟨by decide, by decide⟩ ?_
  refine X.istore (pc := 33) (i := 5) (ls' := [(5, vI 0), (4, vI ((μ) (p0 + 14) (Int.toNat x1))), (3, vI ((μ) (p0 + 12) (Int.toNat (w32 (Int.tmod x1 ((μ) p0 4)))))), (2, vI ((μ) (p0 + 12) (Int.toNat (w32 (Int.tdiv x1 ((μ) p0 4)))))), (0, vR p0), (1, vI x1)]) dX1_askBelow_33 (by decide) rfl ?_
  exact X.pick [4, 5, 3, 2, 1, 0] rfl h

theorem g_X1_askBelow_35 {sh : List (Nat × Nat)} {ν : Nat → Nat → Option Nat} {μ : Nat → Nat → Int} {f s : Nat} {Q : xQ} (hW : WF sh ν f s) {p0 : Nat} (hp0 : isChart p0) {x1 : Int} {x2 : Int} {x3 : Int} {x4 : Int} {x5 : Int}
    (h : ((8 ≤ x5 → Q none sh (ν) (μ)) ∧ (x5 < 8 → (0 ≤ x1 ∧ x1 < ((nsp p0 * nsp p0) : Nat)) ∧ (((xand ((μ) (p0 + 13) (Int.toNat x1)) (xxor x4 (-1))) = 0 → Q none sh (ν) (μ)) ∧ ((xand ((μ) (p0 + 13) (Int.toNat x1)) (xxor x4 (-1))) ≠ 0 → (0 ≤ x1 ∧ x1 < ((nsp p0 * nsp p0) : Nat)) ∧ X mX1_askBelow 79 [(0, vR p0), (1, vI x1), (2, vI x2), (3, vI x3), (4, vI (xor_ x4 (xand ((μ) (p0 + 13) (Int.toNat x1)) (xxor x4 (-1))))), (5, vI x5), (6, vI (xand ((μ) (p0 + 13) (Int.toNat x1)) (xxor x4 (-1)))), (7, vI 0)] [] sh (ν) (μ) 0 0 Q))))) :
    X mX1_askBelow 35 [(0, vR p0), (1, vI x1), (2, vI x2), (3, vI x3), (4, vI x4), (5, vI x5)] [] sh ν μ 0 0 Q := by
  refine X.iload (pc := 35) (i := 5) 5 dX1_askBelow_35 rfl ?_
  refine X.bipush (pc := 37) (y := 8) dX1_askBelow_37 rfl ⟨by decide, by decide⟩ ?_
  refine X.icmp_ge (pc := 39) 152 dX1_askBelow_39 (by decide) ⟨fun q9 => ?_, fun q9 => ?_⟩
  · have h := h.1 q9
    exact X.vret (pc := 152) dX1_askBelow_152 rfl (Nat.le_of_ble_eq_true rfl) (Nat.le_of_ble_eq_true rfl) h
  · have h := h.2 q9
    refine X.aload_n (pc := 42) (i := 0) 0 dX1_askBelow_42 rfl rfl ?_
    refine X.getR (pc := 43) (b := (p0 + 13)) dX1_askBelow_43 fl_X1_48 rfl (fs_X1 hW hp0) (fp_X1_7 hW hp0) ?_
    refine X.iload_n (pc := 46) (i := 1) 1 dX1_askBelow_46 rfl rfl ?_
    obtain ⟨c1, h⟩ := h
    refine X.iaload (pc := 47) dX1_askBelow_47 (fa_X1_7 hW hp0) c1 ?_
    refine X.iload (pc := 48) (i := 4) 4 dX1_askBelow_48 rfl ?_
    refine X.iconst (pc := 50) dX1_askBelow_50 ⟨by decide, by decide⟩ ?_
    refine X.ixor (pc := 51) dX1_askBelow_51 ?_
    refine X.iand (pc := 52) dX1_askBelow_52 ?_
    refine X.if_eq (pc := 53) 152 dX1_askBelow_53 (by decide) ⟨fun q9 => ?_, fun q9 => ?_⟩
    · have h := h.1 q9
      exact X.vret (pc := 152) dX1_askBelow_152 rfl (Nat.le_of_ble_eq_true rfl) (Nat.le_of_ble_eq_true rfl) h
    · have h := h.2 q9
      refine X.aload_n (pc := 56) (i := 0) 0 dX1_askBelow_56 rfl rfl ?_
      refine X.getR (pc := 57) (b := (p0 + 13)) dX1_askBelow_57 fl_X1_48 rfl (fs_X1 hW hp0) (fp_X1_7 hW hp0) ?_
      refine X.iload_n (pc := 60) (i := 1) 1 dX1_askBelow_60 rfl rfl ?_
      obtain ⟨c2, h⟩ := h
      refine X.iaload (pc := 61) dX1_askBelow_61 (fa_X1_7 hW hp0) c2 ?_
      refine X.iload (pc := 62) (i := 4) 4 dX1_askBelow_62 rfl ?_
      refine X.iconst (pc := 64) dX1_askBelow_64 ⟨by decide, by decide⟩ ?_
      refine X.ixor (pc := 65) dX1_askBelow_65 ?_
      refine X.iand (pc := 66) dX1_askBelow_66 ?_
      refine X.istore (pc := 67) (i := 6) (ls' := [(6, vI (xand ((μ) (p0 + 13) (Int.toNat x1)) (xxor x4 (-1)))), (0, vR p0), (1, vI x1), (2, vI x2), (3, vI x3), (4, vI x4), (5, vI x5)]) dX1_askBelow_67 (by decide) rfl ?_
      refine X.iload (pc := 69) (i := 4) 5 dX1_askBelow_69 rfl ?_
      refine X.iload (pc := 71) (i := 6) 0 dX1_askBelow_71 rfl ?_
      refine X.ior (pc := 73) dX1_askBelow_73 ?_
      refine X.istore (pc := 74) (i := 4) (ls' := [(4, vI (xor_ x4 (xand ((μ) (p0 + 13) (Int.toNat x1)) (xxor x4 (-1))))), (6, vI (xand ((μ) (p0 + 13) (Int.toNat x1)) (xxor x4 (-1)))), (0, vR p0), (1, vI x1), (2, vI x2), (3, vI x3), (5, vI x5)]) dX1_askBelow_74 (by decide) rfl ?_
      refine X.iconst (pc := 76) dX1_askBelow_76 ⟨by decide, by decide⟩ ?_
      refine X.istore (pc := 77) (i := 7) (ls' := [(7, vI 0), (4, vI (xor_ x4 (xand ((μ) (p0 + 13) (Int.toNat x1)) (xxor x4 (-1))))), (6, vI (xand ((μ) (p0 + 13) (Int.toNat x1)) (xxor x4 (-1)))), (0, vR p0), (1, vI x1), (2, vI x2), (3, vI x3), (5, vI x5)]) dX1_askBelow_77 (by decide) rfl ?_
      exact X.pick [3, 4, 5, 6, 1, 7, 2, 0] rfl h

theorem g_X1_askBelow_79 {sh : List (Nat × Nat)} {ν : Nat → Nat → Option Nat} {μ : Nat → Nat → Int} {f s : Nat} {Q : xQ} (hW : WF sh ν f s) {p0 : Nat} (hp0 : isChart p0) {x1 : Int} {x2 : Int} {x3 : Int} {x4 : Int} {x5 : Int} {x6 : Int} {x7 : Int}
    (h : ((((μ) 1 2) ≤ x7 → X mX1_askBelow 35 [(0, vR p0), (1, vI x1), (2, vI x2), (3, vI x3), (4, vI x4), (5, vI (w32 (x5 + 1)))] [] sh (ν) (μ) 0 0 Q) ∧ (x7 < ((μ) 1 2) → (0 ≤ x7 ∧ x7 < (40 : Nat)) ∧ (((xand (xshr x6 ((μ) (7 + 5 * (Int.toNat x7)) 1)) 1) = 0 → X mX1_askBelow 140 [(0, vR p0), (1, vI x1), (2, vI x2), (3, vI x3), (4, vI x4), (5, vI x5), (6, vI x6), (7, vI x7)] [] sh (ν) (μ) 0 0 Q) ∧ ((xand (xshr x6 ((μ) (7 + 5 * (Int.toNat x7)) 1)) 1) ≠ 0 → X mX5_lay 0 [(0, vR 207), (1, vR (7 + 5 * (Int.toNat x7))), (2, vI x2), (3, vI x3)] [] sh (ν) (μ) 0 0 (fun v sh' ν' μ' => X mX1_askBelow 127 [(0, vR p0), (1, vI x1), (2, vI x2), (3, vI x3), (4, vI x4), (5, vI x5), (6, vI x6), (7, vI x7), (8, vR (7 + 5 * (Int.toNat x7)))] (v.toList ++ []) sh' ν' μ' 0 0 Q)))))) :
    X mX1_askBelow 79 [(0, vR p0), (1, vI x1), (2, vI x2), (3, vI x3), (4, vI x4), (5, vI x5), (6, vI x6), (7, vI x7)] [] sh ν μ 0 0 Q := by
  refine X.iload (pc := 79) (i := 7) 7 dX1_askBelow_79 rfl ?_
  refine X.aload_n (pc := 81) (i := 0) 0 dX1_askBelow_81 rfl rfl ?_
  refine X.getR (pc := 82) (b := 1) dX1_askBelow_82 fl_X1_22 rfl (fs_X1 hW hp0) (fp_X1_0 hW hp0) ?_
  refine X.getI (pc := 85) dX1_askBelow_85 fl_X1_100 rfl (fs_X3 hW) ?_
  refine X.icmp_ge (pc := 88) 146 dX1_askBelow_88 (by decide) ⟨fun q9 => ?_, fun q9 => ?_⟩
  · have h := h.1 q9
    refine X.iinc (pc := 146) (i := 5) (ls' := [(5, vI (w32 (x5 + 1))), (0, vR p0), (1, vI x1), (2, vI x2), (3, vI x3), (4, vI x4), (6, vI x6), (7, vI x7)]) 5 dX1_askBelow_146 rfl (by decide) rfl ?_
    refine X.goto (pc := 149) (tgt := 35) dX1_askBelow_149 (by decide) ?_
    exact X.pick [1, 2, 3, 4, 5, 0] rfl h
  · have h := h.2 q9
    refine X.aload_n (pc := 91) (i := 0) 0 dX1_askBelow_91 rfl rfl ?_
    refine X.getR (pc := 92) (b := 1) dX1_askBelow_92 fl_X1_22 rfl (fs_X1 hW hp0) (fp_X1_0 hW hp0) ?_
    refine X.getR (pc := 95) (b := 2) dX1_askBelow_95 fl_X1_105 rfl (fs_X3 hW) (fp_X3_0 hW) ?_
    refine X.iload (pc := 98) (i := 7) 7 dX1_askBelow_98 rfl ?_
    obtain ⟨c1, h⟩ := h
    refine X.aaload (pc := 100) dX1_askBelow_100 (fa_X3_0 hW) (Or.inl rfl) c1 (fe_rules hW c1) ?_
    refine X.astore (pc := 101) (i := 8) (ls' := [(8, vR (7 + 5 * (Int.toNat x7))), (0, vR p0), (1, vI x1), (2, vI x2), (3, vI x3), (4, vI x4), (5, vI x5), (6, vI x6), (7, vI x7)]) dX1_askBelow_101 (by decide) rfl ?_
    refine X.iload (pc := 103) (i := 6) 7 dX1_askBelow_103 rfl ?_
    refine X.aload (pc := 105) (i := 8) 0 dX1_askBelow_105 rfl ?_
    refine X.getI (pc := 107) dX1_askBelow_107 fl_X1_109 rfl (fs_X7 hW (mk_rules c1)) ?_
    refine X.ishr (pc := 110) dX1_askBelow_110 ?_
    refine X.iconst (pc := 111) dX1_askBelow_111 ⟨by decide, by decide⟩ ?_
    refine X.iand (pc := 112) dX1_askBelow_112 ?_
    refine X.if_eq (pc := 113) 140 dX1_askBelow_113 (by decide) ⟨fun q9 => ?_, fun q9 => ?_⟩
    · have h := h.1 q9
      exact X.pick [1, 2, 3, 4, 5, 6, 7, 8] rfl h
    · have h := h.2 q9
      refine X.aload_n (pc := 116) (i := 0) 1 dX1_askBelow_116 rfl rfl ?_
      refine X.getR (pc := 117) (b := 207) dX1_askBelow_117 fl_X1_26 rfl (fs_X1 hW hp0) (fp_X1_1 hW hp0) ?_
      refine X.aload (pc := 120) (i := 8) 0 dX1_askBelow_120 rfl ?_
      refine X.iload_n (pc := 122) (i := 2) 3 dX1_askBelow_122 rfl rfl ?_
      refine X.iload_n (pc := 123) (i := 3) 4 dX1_askBelow_123 rfl rfl ?_
      refine X.pick [1, 2, 3, 4, 5, 6, 7, 8, 0] rfl ?_
      exact X.callV (pc := 124) (vs := [vR (7 + 5 * (Int.toNat x7)), vI x2, vI x3]) (st := []) dX1_askBelow_124 rfl okM_X5_lay rfl lk_X1_114 inst_X5_lay sel_X5_lay (fs_X5 hW) rfl ⟨⟨by decide, by decide⟩, ⟨by decide, by decide⟩, Nat.le_of_ble_eq_true rfl⟩ (Nat.le_of_ble_eq_true rfl) h

theorem g_X1_askBelow_127 {sh : List (Nat × Nat)} {ν : Nat → Nat → Option Nat} {μ : Nat → Nat → Int} {f s : Nat} {Q : xQ} (hW : WF sh ν f s) {p0 : Nat} (hp0 : isChart p0) {x1 : Int} {x2 : Int} {x3 : Int} {x4 : Int} {x5 : Int} {x6 : Int} {x7 : Int} {p8 : Nat} (hp8 : isRule p8) {y0 : Int}
    (h : ((y0 = 0 → X mX1_askBelow 140 [(0, vR p0), (1, vI x1), (2, vI x2), (3, vI x3), (4, vI x4), (5, vI x5), (6, vI x6), (7, vI x7)] [] sh (ν) (μ) 0 0 Q) ∧ (y0 ≠ 0 → X mX1_askParts 0 [(0, vR p0), (1, vI x1), (2, vI (bI ((μ) p8 2 = 2 ∨ (μ) p8 2 = 4)))] [] sh (ν) (μ) 0 0 (fun v sh' ν' μ' => X mX1_askBelow 140 [(0, vR p0), (1, vI x1), (2, vI x2), (3, vI x3), (4, vI x4), (5, vI x5), (6, vI x6), (7, vI x7)] (v.toList ++ []) sh' ν' μ' 0 0 Q)))) :
    X mX1_askBelow 127 [(0, vR p0), (1, vI x1), (2, vI x2), (3, vI x3), (4, vI x4), (5, vI x5), (6, vI x6), (7, vI x7), (8, vR p8)] [vI y0] sh ν μ 0 0 Q := by
  refine X.if_eq (pc := 127) 140 dX1_askBelow_127 (by decide) ⟨fun q9 => ?_, fun q9 => ?_⟩
  · have h := h.1 q9
    exact X.pick [0, 1, 2, 3, 4, 5, 6, 7] rfl h
  · have h := h.2 q9
    refine X.aload_n (pc := 130) (i := 0) 0 dX1_askBelow_130 rfl rfl ?_
    refine X.iload_n (pc := 131) (i := 1) 1 dX1_askBelow_131 rfl rfl ?_
    refine X.aload (pc := 132) (i := 8) 8 dX1_askBelow_132 rfl ?_
    refine X.pick [0, 1, 2, 3, 4, 5, 6, 7] rfl ?_
    refine X.callV (pc := 134) (vs := []) (st := [vI x1, vR p0]) dX1_askBelow_134 rfl okM_X7_isAlongY rfl lk_X1_118 inst_X7_isAlongY sel_X7_isAlongY (fs_X7 hW hp8) rfl ⟨⟨by decide, by decide⟩, ⟨by decide, by decide⟩, Nat.le_of_ble_eq_true rfl⟩ (Nat.le_of_ble_eq_true rfl) (c_X7_isAlongY hW hp8 ?_)
    refine X.nrm (pc' := 137) (ls' := [(0, vR p0), (1, vI x1), (2, vI x2), (3, vI x3), (4, vI x4), (5, vI x5), (6, vI x6), (7, vI x7)]) (st' := [vI (bI ((μ) p8 2 = 2 ∨ (μ) p8 2 = 4)), vI x1, vR p0]) (k' := 0) (n' := 0) rfl rfl rfl rfl rfl ?_
    exact X.callV (pc := 137) (vs := [vI x1, vI (bI ((μ) p8 2 = 2 ∨ (μ) p8 2 = 4))]) (st := []) dX1_askBelow_137 rfl okM_X1_askParts rfl lk_X1_122 inst_X1_askParts sel_X1_askParts (fs_X1 hW hp0) rfl ⟨⟨by decide, by decide⟩, ⟨by decide, by decide⟩, Nat.le_of_ble_eq_true rfl⟩ (Nat.le_of_ble_eq_true rfl) h

theorem g_X1_askBelow_140 {sh : List (Nat × Nat)} {ν : Nat → Nat → Option Nat} {μ : Nat → Nat → Int} {f s : Nat} {Q : xQ} (hW : WF sh ν f s) {p0 : Nat} (hp0 : isChart p0) {x1 : Int} {x2 : Int} {x3 : Int} {x4 : Int} {x5 : Int} {x6 : Int} {x7 : Int}
    (h : X mX1_askBelow 79 [(0, vR p0), (1, vI x1), (2, vI x2), (3, vI x3), (4, vI x4), (5, vI x5), (6, vI x6), (7, vI (w32 (x7 + 1)))] [] sh (ν) (μ) 0 0 Q) :
    X mX1_askBelow 140 [(0, vR p0), (1, vI x1), (2, vI x2), (3, vI x3), (4, vI x4), (5, vI x5), (6, vI x6), (7, vI x7)] [] sh ν μ 0 0 Q := by
  refine X.iinc (pc := 140) (i := 7) (ls' := [(7, vI (w32 (x7 + 1))), (0, vR p0), (1, vI x1), (2, vI x2), (3, vI x3), (4, vI x4), (5, vI x5), (6, vI x6)]) 7 dX1_askBelow_140 rfl (by decide) rfl ?_
  refine X.goto (pc := 143) (tgt := 79) dX1_askBelow_143 (by decide) ?_
  exact X.pick [1, 2, 3, 4, 5, 6, 7, 0] rfl h

theorem g_X1_askParts_0 {sh : List (Nat × Nat)} {ν : Nat → Nat → Option Nat} {μ : Nat → Nat → Int} {f s : Nat} {Q : xQ} (hW : WF sh ν f s) {p0 : Nat} (hp0 : isChart p0) {x1 : Int} {x2 : Int}
    (h : X mX1_askParts 2 [(0, vR p0), (1, vI x1), (2, vI x2), (3, vI 0)] [] sh (ν) (μ) 0 0 Q) :
    X mX1_askParts 0 [(0, vR p0), (1, vI x1), (2, vI x2)] [] sh ν μ 0 0 Q := by
  refine X.iconst (pc := 0) dX1_askParts_0 ⟨by decide, by decide⟩ ?_
  refine X.istore_n (pc := 1) (i := 3) (ls' := [(3, vI 0), (0, vR p0), (1, vI x1), (2, vI x2)]) dX1_askParts_1 rfl (by decide) rfl ?_
  exact X.pick [1, 2, 3, 0] rfl h

theorem g_X1_askParts_2 {sh : List (Nat × Nat)} {ν : Nat → Nat → Option Nat} {μ : Nat → Nat → Int} {f s : Nat} {Q : xQ} (hW : WF sh ν f s) {p0 : Nat} (hp0 : isChart p0) {x1 : Int} {x2 : Int} {x3 : Int}
    (h : ((((μ) 207 3) ≤ x3 → Q none sh (ν) (μ)) ∧ (x3 < ((μ) 207 3) → X mX1_cellOfPart 0 [(0, vR p0), (1, vI x1), (2, vI x2), (3, vI x3)] [] sh (ν) (μ) 0 0 (fun v sh' ν' μ' => X mX1_askParts 20 [(0, vR p0), (1, vI x1), (2, vI x2), (3, vI x3)] (v.toList ++ []) sh' ν' μ' 0 0 Q)))) :
    X mX1_askParts 2 [(0, vR p0), (1, vI x1), (2, vI x2), (3, vI x3)] [] sh ν μ 0 0 Q := by
  refine X.iload_n (pc := 2) (i := 3) 3 dX1_askParts_2 rfl rfl ?_
  refine X.aload_n (pc := 3) (i := 0) 0 dX1_askParts_3 rfl rfl ?_
  refine X.getR (pc := 4) (b := 207) dX1_askParts_4 fl_X1_26 rfl (fs_X1 hW hp0) (fp_X1_1 hW hp0) ?_
  refine X.getI (pc := 7) dX1_askParts_7 fl_X1_126 rfl (fs_X5 hW) ?_
  refine X.icmp_ge (pc := 10) 60 dX1_askParts_10 (by decide) ⟨fun q9 => ?_, fun q9 => ?_⟩
  · have h := h.1 q9
    exact X.vret (pc := 60) dX1_askParts_60 rfl (Nat.le_of_ble_eq_true rfl) (Nat.le_of_ble_eq_true rfl) h
  · have h := h.2 q9
    refine X.aload_n (pc := 13) (i := 0) 0 dX1_askParts_13 rfl rfl ?_
    refine X.iload_n (pc := 14) (i := 1) 1 dX1_askParts_14 rfl rfl ?_
    refine X.iload_n (pc := 15) (i := 2) 2 dX1_askParts_15 rfl rfl ?_
    refine X.iload_n (pc := 16) (i := 3) 3 dX1_askParts_16 rfl rfl ?_
    exact X.callV (pc := 17) (vs := [vI x1, vI x2, vI x3]) (st := []) dX1_askParts_17 rfl okM_X1_cellOfPart rfl lk_X1_127 inst_X1_cellOfPart sel_X1_cellOfPart (fs_X1 hW hp0) rfl ⟨⟨by decide, by decide⟩, ⟨by decide, by decide⟩, Nat.le_of_ble_eq_true rfl⟩ (Nat.le_of_ble_eq_true rfl) h

theorem g_X1_askParts_20 {sh : List (Nat × Nat)} {ν : Nat → Nat → Option Nat} {μ : Nat → Nat → Int} {f s : Nat} {Q : xQ} (hW : WF sh ν f s) {p0 : Nat} (hp0 : isChart p0) {x1 : Int} {x2 : Int} {x3 : Int} {y0 : Int}
    (h : ((y0 < 0 → X mX1_askParts 54 [(0, vR p0), (1, vI x1), (2, vI x2), (3, vI x3)] [] sh (ν) (μ) 0 0 Q) ∧ (0 ≤ y0 → ((x1 < y0 → X mX1_askParts 54 [(0, vR p0), (1, vI x1), (2, vI x2), (3, vI x3)] [] sh (ν) (μ) 0 0 Q) ∧ (y0 ≤ x1 → (0 ≤ y0 ∧ y0 < ((nsp p0 * nsp p0) : Nat)) ∧ (0 ≤ x3 ∧ x3 < (20 : Nat)) ∧ (0 ≤ y0 ∧ y0 < ((nsp p0 * nsp p0) : Nat)) ∧ X mX1_askParts 54 [(0, vR p0), (1, vI x1), (2, vI x2), (3, vI x3)] [] sh (ν) (up μ (p0 + 13) (Int.toNat y0) (xor_ ((μ) (p0 + 13) (Int.toNat y0)) (xshl 1 ((μ) 208 (Int.toNat x3))))) 0 0 Q))))) :
    X mX1_askParts 20 [(0, vR p0), (1, vI x1), (2, vI x2), (3, vI x3)] [vI y0] sh ν μ 0 0 Q := by
  refine X.istore (pc := 20) (i := 4) (ls' := [(4, vI y0), (0, vR p0), (1, vI x1), (2, vI x2), (3, vI x3)]) dX1_askParts_20 (by decide) rfl ?_
  refine X.iload (pc := 22) (i := 4) 0 dX1_askParts_22 rfl ?_
  refine X.if_lt (pc := 24) 54 dX1_askParts_24 (by decide) ⟨fun q9 => ?_, fun q9 => ?_⟩
  · have h := h.1 q9
    exact X.pick [1, 2, 3, 4] rfl h
  · have h := h.2 q9
    refine X.iload (pc := 27) (i := 4) 0 dX1_askParts_27 rfl ?_
    refine X.iload_n (pc := 29) (i := 1) 2 dX1_askParts_29 rfl rfl ?_
    refine X.icmp_gt (pc := 30) 54 dX1_askParts_30 (by decide) ⟨fun q9 => ?_, fun q9 => ?_⟩
    · have h := h.1 q9
      exact X.pick [1, 2, 3, 4] rfl h
    · have h := h.2 q9
      refine X.aload_n (pc := 33) (i := 0) 1 dX1_askParts_33 rfl rfl ?_
      refine X.getR (pc := 34) (b := (p0 + 13)) dX1_askParts_34 fl_X1_48 rfl (fs_X1 hW hp0) (fp_X1_7 hW hp0) ?_
      refine X.iload (pc := 37) (i := 4) 0 dX1_askParts_37 rfl ?_
      refine X.dup2 (pc := 39) dX1_askParts_39 rfl rfl ?_
      obtain ⟨c1, h⟩ := h
      refine X.iaload (pc := 40) dX1_askParts_40 (fa_X1_7 hW hp0) c1 ?_
      refine X.iconst (pc := 41) dX1_askParts_41 ⟨by decide, by decide⟩ ?_
      refine X.aload_n (pc := 42) (i := 0) 1 dX1_askParts_42 rfl rfl ?_
      refine X.getR (pc := 43) (b := 207) dX1_askParts_43 fl_X1_26 rfl (fs_X1 hW hp0) (fp_X1_1 hW hp0) ?_
      refine X.getR (pc := 46) (b := 208) dX1_askParts_46 fl_X1_131 rfl (fs_X5 hW) (fp_X5_0 hW) ?_
      refine X.iload_n (pc := 49) (i := 3) 4 dX1_askParts_49 rfl rfl ?_
      obtain ⟨c2, h⟩ := h
      refine X.iaload (pc := 50) dX1_askParts_50 (fa_X5_0 hW) c2 ?_
      refine X.ishl (pc := 51) dX1_askParts_51 ?_
      refine X.ior (pc := 52) dX1_askParts_52 ?_
      obtain ⟨c3, h⟩ := h
      refine X.iastore (pc := 53) dX1_askParts_53 (fa_X1_7 hW hp0) c3 ?_
      exact X.pick [1, 2, 3, 4] rfl h

theorem g_X1_askParts_54 {sh : List (Nat × Nat)} {ν : Nat → Nat → Option Nat} {μ : Nat → Nat → Int} {f s : Nat} {Q : xQ} (hW : WF sh ν f s) {p0 : Nat} (hp0 : isChart p0) {x1 : Int} {x2 : Int} {x3 : Int}
    (h : X mX1_askParts 2 [(0, vR p0), (1, vI x1), (2, vI x2), (3, vI (w32 (x3 + 1)))] [] sh (ν) (μ) 0 0 Q) :
    X mX1_askParts 54 [(0, vR p0), (1, vI x1), (2, vI x2), (3, vI x3)] [] sh ν μ 0 0 Q := by
  refine X.iinc (pc := 54) (i := 3) (ls' := [(3, vI (w32 (x3 + 1))), (0, vR p0), (1, vI x1), (2, vI x2)]) 3 dX1_askParts_54 rfl (by decide) rfl ?_
  refine X.goto (pc := 57) (tgt := 2) dX1_askParts_57 (by decide) ?_
  exact X.pick [1, 2, 3, 0] rfl h

theorem g_X1_settleCell_0 {sh : List (Nat × Nat)} {ν : Nat → Nat → Option Nat} {μ : Nat → Nat → Int} {f s : Nat} {Q : xQ} (hW : WF sh ν f s) {p0 : Nat} (hp0 : isChart p0) {x1 : Int}
    (h : (0 ≤ x1 ∧ x1 < ((nsp p0 * nsp p0) : Nat)) ∧ (0 ≤ x1 ∧ x1 < ((nsp p0 * nsp p0) : Nat)) ∧ (((xand ((μ) (p0 + 13) (Int.toNat x1)) (xxor ((μ) (p0 + 14) (Int.toNat x1)) (-1))) ≠ 0 → (((μ) p0 4) ≠ 0) ∧ (0 ≤ (w32 (Int.tdiv x1 ((μ) p0 4))) ∧ (w32 (Int.tdiv x1 ((μ) p0 4))) < (nsp p0 : Nat)) ∧ (((μ) p0 4) ≠ 0) ∧ (0 ≤ (w32 (Int.tmod x1 ((μ) p0 4))) ∧ (w32 (Int.tmod x1 ((μ) p0 4))) < (nsp p0 : Nat)) ∧ ((((μ) p0 3) = 0 → X mX1_settleCell 90 [(0, vR p0), (1, vI x1), (2, vI (xand ((μ) (p0 + 13) (Int.toNat x1)) (xxor ((μ) (p0 + 14) (Int.toNat x1)) (-1)))), (3, vI ((μ) (p0 + 12) (Int.toNat (w32 (Int.tdiv x1 ((μ) p0 4)))))), (4, vI ((μ) (p0 + 12) (Int.toNat (w32 (Int.tmod x1 ((μ) p0 4))))))] [vI (-9)] sh (ν) (μ) 0 0 Q) ∧ (((μ) p0 3) ≠ 0 → (((μ) p0 4) ≠ 0) ∧ (0 ≤ (w32 (Int.tdiv x1 ((μ) p0 4))) ∧ (w32 (Int.tdiv x1 ((μ) p0 4))) < (nsp p0 : Nat)) ∧ (((μ) p0 4) ≠ 0) ∧ (0 ≤ (w32 (Int.tmod x1 ((μ) p0 4))) ∧ (w32 (Int.tmod x1 ((μ) p0 4))) < (nsp p0 : Nat)) ∧ X mX0_soleLetter 0 [(0, vR 211), (1, vI ((μ) (p0 + 11) (Int.toNat (w32 (Int.tdiv x1 ((μ) p0 4)))))), (2, vI ((μ) (p0 + 11) (Int.toNat (w32 (Int.tmod x1 ((μ) p0 4)))))), (3, vI ((μ) (p0 + 12) (Int.toNat (w32 (Int.tdiv x1 ((μ) p0 4)))))), (4, vI ((μ) (p0 + 12) (Int.toNat (w32 (Int.tmod x1 ((μ) p0 4))))))] [] sh (ν) (μ) 0 0 (fun v sh' ν' μ' => X mX1_settleCell 85 [(0, vR p0), (1, vI x1), (2, vI (xand ((μ) (p0 + 13) (Int.toNat x1)) (xxor ((μ) (p0 + 14) (Int.toNat x1)) (-1)))), (3, vI ((μ) (p0 + 12) (Int.toNat (w32 (Int.tdiv x1 ((μ) p0 4)))))), (4, vI ((μ) (p0 + 12) (Int.toNat (w32 (Int.tmod x1 ((μ) p0 4))))))] (v.toList ++ []) sh' ν' μ' 0 0 Q)))) ∧ ((xand ((μ) (p0 + 13) (Int.toNat x1)) (xxor ((μ) (p0 + 14) (Int.toNat x1)) (-1))) = 0 → Q none sh (ν) (μ)))) :
    X mX1_settleCell 0 [(0, vR p0), (1, vI x1)] [] sh ν μ 0 0 Q := by
  refine X.aload_n (pc := 0) (i := 0) 0 dX1_settleCell_0 rfl rfl ?_
  refine X.getR (pc := 1) (b := (p0 + 13)) dX1_settleCell_1 fl_X1_48 rfl (fs_X1 hW hp0) (fp_X1_7 hW hp0) ?_
  refine X.iload_n (pc := 4) (i := 1) 1 dX1_settleCell_4 rfl rfl ?_
  obtain ⟨c1, h⟩ := h
  refine X.iaload (pc := 5) dX1_settleCell_5 (fa_X1_7 hW hp0) c1 ?_
  refine X.aload_n (pc := 6) (i := 0) 0 dX1_settleCell_6 rfl rfl ?_
  refine X.getR (pc := 7) (b := (p0 + 14)) dX1_settleCell_7 fl_X1_51 rfl (fs_X1 hW hp0) (fp_X1_8 hW hp0) ?_
  refine X.iload_n (pc := 10) (i := 1) 1 dX1_settleCell_10 rfl rfl ?_
  obtain ⟨c2, h⟩ := h
  refine X.iaload (pc := 11) dX1_settleCell_11 (fa_X1_8 hW hp0) c2 ?_
  refine X.iconst (pc := 12) dX1_settleCell_12 ⟨by decide, by decide⟩ ?_
  refine X.ixor (pc := 13) dX1_settleCell_13 ?_
  refine X.iand (pc := 14) dX1_settleCell_14 ?_
  refine X.istore_n (pc := 15) (i := 2) (ls' := [(2, vI (xand ((μ) (p0 + 13) (Int.toNat x1)) (xxor ((μ) (p0 + 14) (Int.toNat x1)) (-1)))), (0, vR p0), (1, vI x1)]) dX1_settleCell_15 rfl (by decide) rfl ?_
  refine X.iload_n (pc := 16) (i := 2) 0 dX1_settleCell_16 rfl rfl ?_
  refine X.if_ne (pc := 17) 21 dX1_settleCell_17 (by decide) ⟨fun q9 => ?_, fun q9 => ?_⟩
  · have h := h.1 q9
    refine X.aload_n (pc := 21) (i := 0) 1 dX1_settleCell_21 rfl rfl ?_
    refine X.getR (pc := 22) (b := (p0 + 12)) dX1_settleCell_22 fl_X1_45 rfl (fs_X1 hW hp0) (fp_X1_6 hW hp0) ?_
    refine X.iload_n (pc := 25) (i := 1) 2 dX1_settleCell_25 rfl rfl ?_
    refine X.aload_n (pc := 26) (i := 0) 1 dX1_settleCell_26 rfl rfl ?_
    refine X.getI (pc := 27) dX1_settleCell_27 fl_X1_37 rfl (fs_X1 hW hp0) ?_
    obtain ⟨c3, h⟩ := h
    refine X.idiv (pc := 30) dX1_settleCell_30 c3 ?_
    obtain ⟨c4, h⟩ := h
    refine X.iaload (pc := 31) dX1_settleCell_31 (fa_X1_6 hW hp0) c4 ?_
    refine X.istore_n (pc := 32) (i := 3) (ls' := [(3, vI ((μ) (p0 + 12) (Int.toNat (w32 (Int.tdiv x1 ((μ) p0 4)))))), (2, vI (xand ((μ) (p0 + 13) (Int.toNat x1)) (xxor ((μ) (p0 + 14) (Int.toNat x1)) (-1)))), (0, vR p0), (1, vI x1)]) dX1_settleCell_32 rfl (by decide) rfl ?_
    refine X.aload_n (pc := 33) (i := 0) 2 dX1_settleCell_33 rfl rfl ?_
    refine X.getR (pc := 34) (b := (p0 + 12)) dX1_settleCell_34 fl_X1_45 rfl (fs_X1 hW hp0) (fp_X1_6 hW hp0) ?_
    refine X.iload_n (pc := 37) (i := 1) 3 dX1_settleCell_37 rfl rfl ?_
    refine X.aload_n (pc := 38) (i := 0) 2 dX1_settleCell_38 rfl rfl ?_
    refine X.getI (pc := 39) dX1_settleCell_39 fl_X1_37 rfl (fs_X1 hW hp0) ?_
    obtain ⟨c5, h⟩ := h
    refine X.irem (pc := 42) dX1_settleCell_42 c5 ?_
    obtain ⟨c6, h⟩ := h
    refine X.iaload (pc := 43) dX1_settleCell_43 (fa_X1_6 hW hp0) c6 ?_
    refine X.istore (pc := 44) (i := 4) (ls' := [(4, vI ((μ) (p0 + 12) (Int.toNat (w32 (Int.tmod x1 ((μ) p0 4)))))), (3, vI ((μ) (p0 + 12) (Int.toNat (w32 (Int.tdiv x1 ((μ) p0 4)))))), (2, vI (xand ((μ) (p0 + 13) (Int.toNat x1)) (xxor ((μ) (p0 + 14) (Int.toNat x1)) (-1)))), (0, vR p0), (1, vI x1)]) dX1_settleCell_44 (by decide) rfl ?_
    refine X.aload_n (pc := 46) (i := 0) 3 dX1_settleCell_46 rfl rfl ?_
    refine X.getI (pc := 47) dX1_settleCell_47 fl_X1_34 rfl (fs_X1 hW hp0) ?_
    refine X.if_eq (pc := 50) 88 dX1_settleCell_50 (by decide) ⟨fun q9 => ?_, fun q9 => ?_⟩
    · have h := h.1 q9
      refine X.bipush (pc := 88) (y := -9) dX1_settleCell_88 rfl ⟨by decide, by decide⟩ ?_
      exact X.pick [3, 4, 2, 1, 0] rfl h
    · have h := h.2 q9
      refine X.aload_n (pc := 53) (i := 0) 3 dX1_settleCell_53 rfl rfl ?_
      refine X.getR (pc := 54) (b := 211) dX1_settleCell_54 fl_X1_30 rfl (fs_X1 hW hp0) (fp_X1_2 hW hp0) ?_
      refine X.aload_n (pc := 57) (i := 0) 3 dX1_settleCell_57 rfl rfl ?_
      refine X.getR (pc := 58) (b := (p0 + 11)) dX1_settleCell_58 fl_X1_41 rfl (fs_X1 hW hp0) (fp_X1_5 hW hp0) ?_
      refine X.iload_n (pc := 61) (i := 1) 4 dX1_settleCell_61 rfl rfl ?_
      refine X.aload_n (pc := 62) (i := 0) 3 dX1_settleCell_62 rfl rfl ?_
      refine X.getI (pc := 63) dX1_settleCell_63 fl_X1_37 rfl (fs_X1 hW hp0) ?_
      obtain ⟨c7, h⟩ := h
      refine X.idiv (pc := 66) dX1_settleCell_66 c7 ?_
      obtain ⟨c8, h⟩ := h
      refine X.iaload (pc := 67) dX1_settleCell_67 (fa_X1_5 hW hp0) c8 ?_
      refine X.aload_n (pc := 68) (i := 0) 3 dX1_settleCell_68 rfl rfl ?_
      refine X.getR (pc := 69) (b := (p0 + 11)) dX1_settleCell_69 fl_X1_41 rfl (fs_X1 hW hp0) (fp_X1_5 hW hp0) ?_
      refine X.iload_n (pc := 72) (i := 1) 4 dX1_settleCell_72 rfl rfl ?_
      refine X.aload_n (pc := 73) (i := 0) 3 dX1_settleCell_73 rfl rfl ?_
      refine X.getI (pc := 74) dX1_settleCell_74 fl_X1_37 rfl (fs_X1 hW hp0) ?_
      obtain ⟨c9, h⟩ := h
      refine X.irem (pc := 77) dX1_settleCell_77 c9 ?_
      obtain ⟨c10, h⟩ := h
      refine X.iaload (pc := 78) dX1_settleCell_78 (fa_X1_5 hW hp0) c10 ?_
      refine X.iload_n (pc := 79) (i := 3) 1 dX1_settleCell_79 rfl rfl ?_
      refine X.iload (pc := 80) (i := 4) 0 dX1_settleCell_80 rfl ?_
      refine X.pick [3, 4, 2, 1, 0] rfl ?_
      exact X.callV (pc := 82) (vs := [vI ((μ) (p0 + 11) (Int.toNat (w32 (Int.tdiv x1 ((μ) p0 4))))), vI ((μ) (p0 + 11) (Int.toNat (w32 (Int.tmod x1 ((μ) p0 4))))), vI ((μ) (p0 + 12) (Int.toNat (w32 (Int.tdiv x1 ((μ) p0 4))))), vI ((μ) (p0 + 12) (Int.toNat (w32 (Int.tmod x1 ((μ) p0 4)))))]) (st := []) dX1_settleCell_82 rfl okM_X0_soleLetter rfl lk_X1_133 inst_X0_soleLetter sel_X0_soleLetter (fs_X0 hW) rfl ⟨⟨by decide, by decide⟩, ⟨by decide, by decide⟩, Nat.le_of_ble_eq_true rfl⟩ (Nat.le_of_ble_eq_true rfl) h
  · have h := h.2 q9
    exact X.vret (pc := 20) dX1_settleCell_20 rfl (Nat.le_of_ble_eq_true rfl) (Nat.le_of_ble_eq_true rfl) h

theorem g_X1_settleCell_85 {sh : List (Nat × Nat)} {ν : Nat → Nat → Option Nat} {μ : Nat → Nat → Int} {f s : Nat} {Q : xQ} (hW : WF sh ν f s) {p0 : Nat} (hp0 : isChart p0) {x1 : Int} {x2 : Int} {x3 : Int} {x4 : Int} {y0 : Int}
    (h : X mX1_settleCell 90 [(0, vR p0), (1, vI x1), (2, vI x2), (3, vI x3), (4, vI x4)] [vI y0] sh (ν) (μ) 0 0 Q) :
    X mX1_settleCell 85 [(0, vR p0), (1, vI x1), (2, vI x2), (3, vI x3), (4, vI x4)] [vI y0] sh ν μ 0 0 Q := by
  refine X.goto (pc := 85) (tgt := 90) dX1_settleCell_85 (by decide) ?_
  exact h

theorem g_X1_settleCell_90 {sh : List (Nat × Nat)} {ν : Nat → Nat → Option Nat} {μ : Nat → Nat → Int} {f s : Nat} {Q : xQ} (hW : WF sh ν f s) {p0 : Nat} (hp0 : isChart p0) {x1 : Int} {x2 : Int} {x3 : Int} {x4 : Int} {y0 : Int}
    (h : X mX4_begin 0 [(0, vR (p0 + 1))] [] sh (ν) (μ) 0 0 (fun v sh' ν' μ' => X mX1_settleCell 99 [(0, vR p0), (1, vI x1), (2, vI x2), (3, vI x3), (4, vI x4), (5, vI y0)] (v.toList ++ []) sh' ν' μ' 0 0 Q)) :
    X mX1_settleCell 90 [(0, vR p0), (1, vI x1), (2, vI x2), (3, vI x3), (4, vI x4)] [vI y0] sh ν μ 0 0 Q := by
  refine X.istore (pc := 90) (i := 5) (ls' := [(5, vI y0), (0, vR p0), (1, vI x1), (2, vI x2), (3, vI x3), (4, vI x4)]) dX1_settleCell_90 (by decide) rfl ?_
  refine X.aload_n (pc := 92) (i := 0) 1 dX1_settleCell_92 rfl rfl ?_
  refine X.getR (pc := 93) (b := (p0 + 1)) dX1_settleCell_93 fl_X1_12 rfl (fs_X1 hW hp0) (fp_X1_12 hW hp0) ?_
  refine X.pick [1, 2, 3, 4, 5, 0] rfl ?_
  exact X.callV (pc := 96) (vs := []) (st := []) dX1_settleCell_96 rfl okM_X4_begin rfl lk_X1_139 inst_X4_begin sel_X4_begin (fs_X4 hW (mk_knot hp0)) rfl ⟨⟨by decide, by decide⟩, ⟨by decide, by decide⟩, Nat.le_of_ble_eq_true rfl⟩ (Nat.le_of_ble_eq_true rfl) h

theorem g_X1_settleCell_99 {sh : List (Nat × Nat)} {ν : Nat → Nat → Option Nat} {μ : Nat → Nat → Int} {f s : Nat} {Q : xQ} (hW : WF sh ν f s) {p0 : Nat} (hp0 : isChart p0) {x1 : Int} {x2 : Int} {x3 : Int} {x4 : Int} {x5 : Int}
    (h : X mX1_settleCell 102 [(0, vR p0), (1, vI x1), (2, vI x2), (3, vI x3), (4, vI x4), (5, vI x5), (6, vI 0)] [] sh (ν) (μ) 0 0 Q) :
    X mX1_settleCell 99 [(0, vR p0), (1, vI x1), (2, vI x2), (3, vI x3), (4, vI x4), (5, vI x5)] [] sh ν μ 0 0 Q := by
  refine X.iconst (pc := 99) dX1_settleCell_99 ⟨by decide, by decide⟩ ?_
  refine X.istore (pc := 100) (i := 6) (ls' := [(6, vI 0), (0, vR p0), (1, vI x1), (2, vI x2), (3, vI x3), (4, vI x4), (5, vI x5)]) dX1_settleCell_100 (by decide) rfl ?_
  exact X.pick [1, 2, 3, 4, 5, 6, 0] rfl h

theorem g_X1_settleCell_102 {sh : List (Nat × Nat)} {ν : Nat → Nat → Option Nat} {μ : Nat → Nat → Int} {f s : Nat} {Q : xQ} (hW : WF sh ν f s) {p0 : Nat} (hp0 : isChart p0) {x1 : Int} {x2 : Int} {x3 : Int} {x4 : Int} {x5 : Int} {x6 : Int}
    (h : ((((μ) 1 2) ≤ x6 → X mX4_settle 0 [(0, vR (p0 + 1))] [] sh (ν) (μ) 0 0 (fun v sh' ν' μ' => X mX1_settleCell 284 [(0, vR p0), (1, vI x1), (2, vI x2)] (v.toList ++ []) sh' ν' μ' 0 0 Q)) ∧ (x6 < ((μ) 1 2) → (0 ≤ x6 ∧ x6 < (40 : Nat)) ∧ (((xand (xshr x2 ((μ) (7 + 5 * (Int.toNat x6)) 1)) 1) = 0 → X mX1_settleCell 271 [(0, vR p0), (1, vI x1), (2, vI x2), (3, vI x3), (4, vI x4), (5, vI x5), (6, vI x6)] [] sh (ν) (μ) 0 0 Q) ∧ ((xand (xshr x2 ((μ) (7 + 5 * (Int.toNat x6)) 1)) 1) ≠ 0 → X mX5_lay 0 [(0, vR 207), (1, vR (7 + 5 * (Int.toNat x6))), (2, vI x3), (3, vI x4)] [] sh (ν) (μ) 0 0 (fun v sh' ν' μ' => X mX1_settleCell 150 [(0, vR p0), (1, vI x1), (2, vI x2), (3, vI x3), (4, vI x4), (5, vI x5), (6, vI x6), (7, vR (7 + 5 * (Int.toNat x6)))] (v.toList ++ []) sh' ν' μ' 0 0 Q)))))) :
    X mX1_settleCell 102 [(0, vR p0), (1, vI x1), (2, vI x2), (3, vI x3), (4, vI x4), (5, vI x5), (6, vI x6)] [] sh ν μ 0 0 Q := by
  refine X.iload (pc := 102) (i := 6) 6 dX1_settleCell_102 rfl ?_
  refine X.aload_n (pc := 104) (i := 0) 0 dX1_settleCell_104 rfl rfl ?_
  refine X.getR (pc := 105) (b := 1) dX1_settleCell_105 fl_X1_22 rfl (fs_X1 hW hp0) (fp_X1_0 hW hp0) ?_
  refine X.getI (pc := 108) dX1_settleCell_108 fl_X1_100 rfl (fs_X3 hW) ?_
  refine X.icmp_ge (pc := 111) 277 dX1_settleCell_111 (by decide) ⟨fun q9 => ?_, fun q9 => ?_⟩
  · have h := h.1 q9
    refine X.aload_n (pc := 277) (i := 0) 0 dX1_settleCell_277 rfl rfl ?_
    refine X.getR (pc := 278) (b := (p0 + 1)) dX1_settleCell_278 fl_X1_12 rfl (fs_X1 hW hp0) (fp_X1_12 hW hp0) ?_
    refine X.pick [0, 1, 2] rfl ?_
    exact X.callV (pc := 281) (vs := []) (st := []) dX1_settleCell_281 rfl okM_X4_settle rfl lk_X1_163 inst_X4_settle sel_X4_settle (fs_X4 hW (mk_knot hp0)) rfl ⟨⟨by decide, by decide⟩, ⟨by decide, by decide⟩, Nat.le_of_ble_eq_true rfl⟩ (Nat.le_of_ble_eq_true rfl) h
  · have h := h.2 q9
    refine X.aload_n (pc := 114) (i := 0) 0 dX1_settleCell_114 rfl rfl ?_
    refine X.getR (pc := 115) (b := 1) dX1_settleCell_115 fl_X1_22 rfl (fs_X1 hW hp0) (fp_X1_0 hW hp0) ?_
    refine X.getR (pc := 118) (b := 2) dX1_settleCell_118 fl_X1_105 rfl (fs_X3 hW) (fp_X3_0 hW) ?_
    refine X.iload (pc := 121) (i := 6) 6 dX1_settleCell_121 rfl ?_
    obtain ⟨c1, h⟩ := h
    refine X.aaload (pc := 123) dX1_settleCell_123 (fa_X3_0 hW) (Or.inl rfl) c1 (fe_rules hW c1) ?_
    refine X.astore (pc := 124) (i := 7) (ls' := [(7, vR (7 + 5 * (Int.toNat x6))), (0, vR p0), (1, vI x1), (2, vI x2), (3, vI x3), (4, vI x4), (5, vI x5), (6, vI x6)]) dX1_settleCell_124 (by decide) rfl ?_
    refine X.iload_n (pc := 126) (i := 2) 3 dX1_settleCell_126 rfl rfl ?_
    refine X.aload (pc := 127) (i := 7) 0 dX1_settleCell_127 rfl ?_
    refine X.getI (pc := 129) dX1_settleCell_129 fl_X1_109 rfl (fs_X7 hW (mk_rules c1)) ?_
    refine X.ishr (pc := 132) dX1_settleCell_132 ?_
    refine X.iconst (pc := 133) dX1_settleCell_133 ⟨by decide, by decide⟩ ?_
    refine X.iand (pc := 134) dX1_settleCell_134 ?_
    refine X.if_eq (pc := 135) 271 dX1_settleCell_135 (by decide) ⟨fun q9 => ?_, fun q9 => ?_⟩
    · have h := h.1 q9
      exact X.pick [1, 2, 3, 4, 5, 6, 7] rfl h
    · have h := h.2 q9
      refine X.aload_n (pc := 138) (i := 0) 1 dX1_settleCell_138 rfl rfl ?_
      refine X.getR (pc := 139) (b := 207) dX1_settleCell_139 fl_X1_26 rfl (fs_X1 hW hp0) (fp_X1_1 hW hp0) ?_
      refine X.aload (pc := 142) (i := 7) 0 dX1_settleCell_142 rfl ?_
      refine X.iload_n (pc := 144) (i := 3) 4 dX1_settleCell_144 rfl rfl ?_
      refine X.iload (pc := 145) (i := 4) 5 dX1_settleCell_145 rfl ?_
      refine X.pick [1, 2, 3, 4, 5, 6, 7, 0] rfl ?_
      exact X.callV (pc := 147) (vs := [vR (7 + 5 * (Int.toNat x6)), vI x3, vI x4]) (st := []) dX1_settleCell_147 rfl okM_X5_lay rfl lk_X1_114 inst_X5_lay sel_X5_lay (fs_X5 hW) rfl ⟨⟨by decide, by decide⟩, ⟨by decide, by decide⟩, Nat.le_of_ble_eq_true rfl⟩ (Nat.le_of_ble_eq_true rfl) h

theorem g_X1_settleCell_150 {sh : List (Nat × Nat)} {ν : Nat → Nat → Option Nat} {μ : Nat → Nat → Int} {f s : Nat} {Q : xQ} (hW : WF sh ν f s) {p0 : Nat} (hp0 : isChart p0) {x1 : Int} {x2 : Int} {x3 : Int} {x4 : Int} {x5 : Int} {x6 : Int} {p7 : Nat} (hp7 : isRule p7) {y0 : Int}
    (h : ((y0 ≠ 0 → ((((μ) p7 2) ≠ 0 → ((((μ) 207 3) ≠ 1 → X mX1_settleCell 262 [(0, vR p0), (1, vI x1), (2, vI x2), (3, vI x3), (4, vI x4), (5, vI x5), (6, vI x6), (7, vR p7)] [] sh (ν) (μ) 0 0 Q) ∧ (((μ) 207 3) = 1 → (((xand (xshr x2 ((μ) 208 (Int.toNat 0))) 1) = 0 → X mX1_settleCell 262 [(0, vR p0), (1, vI x1), (2, vI x2), (3, vI x3), (4, vI x4), (5, vI x5), (6, vI x6), (7, vR p7)] [] sh (ν) (μ) 0 0 Q) ∧ ((xand (xshr x2 ((μ) 208 (Int.toNat 0))) 1) ≠ 0 → (0 ≤ (μ) p7 3 ∧ (μ) p7 3 ≤ 99) ∧ X mX4_tie 0 [(0, vR (p0 + 1)), (1, vI ((μ) p7 1)), (2, vI x6), (3, vI ((μ) 208 (Int.toNat 0))), (4, vL ((μ) p7 3 * 1048576 + 1))] [] sh (ν) (μ) 0 0 (fun v sh' ν' μ' => X mX1_settleCell 259 [(0, vR p0), (1, vI x1), (2, vI x2), (3, vI x3), (4, vI x4), (5, vI x5), (6, vI x6)] (v.toList ++ []) sh' ν' μ' 0 0 Q)))))) ∧ (((μ) p7 2) = 0 → ((((μ) p0 3) = 0 → X mX1_settleCell 181 [(0, vR p0), (1, vI x1), (2, vI x2), (3, vI x3), (4, vI x4), (5, vI x5), (6, vI x6), (7, vR p7)] [] sh (ν) (μ) 0 0 Q) ∧ (((μ) p0 3) ≠ 0 → ((((μ) p7 4) ≠ x5 → X mX1_settleCell 271 [(0, vR p0), (1, vI x1), (2, vI x2), (3, vI x3), (4, vI x4), (5, vI x5), (6, vI x6)] [] sh (ν) (μ) 0 0 Q) ∧ (((μ) p7 4) = x5 → X mX1_settleCell 181 [(0, vR p0), (1, vI x1), (2, vI x2), (3, vI x3), (4, vI x4), (5, vI x5), (6, vI x6), (7, vR p7)] [] sh (ν) (μ) 0 0 Q))))))) ∧ (y0 = 0 → X mX1_settleCell 271 [(0, vR p0), (1, vI x1), (2, vI x2), (3, vI x3), (4, vI x4), (5, vI x5), (6, vI x6)] [] sh (ν) (μ) 0 0 Q))) :
    X mX1_settleCell 150 [(0, vR p0), (1, vI x1), (2, vI x2), (3, vI x3), (4, vI x4), (5, vI x5), (6, vI x6), (7, vR p7)] [vI y0] sh ν μ 0 0 Q := by
  refine X.if_ne (pc := 150) 156 dX1_settleCell_150 (by decide) ⟨fun q9 => ?_, fun q9 => ?_⟩
  · have h := h.1 q9
    refine X.aload (pc := 156) (i := 7) 7 dX1_settleCell_156 rfl ?_
    refine X.getI (pc := 158) dX1_settleCell_158 fl_X1_141 rfl (fs_X7 hW hp7) ?_
    refine X.if_ne (pc := 161) 204 dX1_settleCell_161 (by decide) ⟨fun q9 => ?_, fun q9 => ?_⟩
    · have h := h.1 q9
      refine X.aload_n (pc := 204) (i := 0) 0 dX1_settleCell_204 rfl rfl ?_
      refine X.getR (pc := 205) (b := 207) dX1_settleCell_205 fl_X1_26 rfl (fs_X1 hW hp0) (fp_X1_1 hW hp0) ?_
      refine X.getI (pc := 208) dX1_settleCell_208 fl_X1_126 rfl (fs_X5 hW) ?_
      refine X.iconst (pc := 211) dX1_settleCell_211 ⟨by decide, by decide⟩ ?_
      refine X.icmp_ne (pc := 212) 262 dX1_settleCell_212 (by decide) ⟨fun q9 => ?_, fun q9 => ?_⟩
      · have h := h.1 q9
        exact h
      · have h := h.2 q9
        refine X.iload_n (pc := 215) (i := 2) 2 dX1_settleCell_215 rfl rfl ?_
        refine X.aload_n (pc := 216) (i := 0) 0 dX1_settleCell_216 rfl rfl ?_
        refine X.getR (pc := 217) (b := 207) dX1_settleCell_217 fl_X1_26 rfl (fs_X1 hW hp0) (fp_X1_1 hW hp0) ?_
        refine X.getR (pc := 220) (b := 208) dX1_settleCell_220 fl_X1_131 rfl (fs_X5 hW) (fp_X5_0 hW) ?_
        refine X.iconst (pc := 223) dX1_settleCell_223 ⟨by decide, by decide⟩ ?_
        refine X.iaload (pc := 224) dX1_settleCell_224 (fa_X5_0 hW) ⟨by decide, by decide⟩ ?_
        refine X.ishr (pc := 225) dX1_settleCell_225 ?_
        refine X.iconst (pc := 226) dX1_settleCell_226 ⟨by decide, by decide⟩ ?_
        refine X.iand (pc := 227) dX1_settleCell_227 ?_
        refine X.if_eq (pc := 228) 262 dX1_settleCell_228 (by decide) ⟨fun q9 => ?_, fun q9 => ?_⟩
        · have h := h.1 q9
          exact h
        · have h := h.2 q9
          refine X.aload_n (pc := 231) (i := 0) 0 dX1_settleCell_231 rfl rfl ?_
          refine X.getR (pc := 232) (b := (p0 + 1)) dX1_settleCell_232 fl_X1_12 rfl (fs_X1 hW hp0) (fp_X1_12 hW hp0) ?_
          refine X.aload (pc := 235) (i := 7) 7 dX1_settleCell_235 rfl ?_
          refine X.getI (pc := 237) dX1_settleCell_237 fl_X1_109 rfl (fs_X7 hW hp7) ?_
          refine X.iload (pc := 240) (i := 6) 6 dX1_settleCell_240 rfl ?_
          refine X.aload_n (pc := 242) (i := 0) 0 dX1_settleCell_242 rfl rfl ?_
          refine X.getR (pc := 243) (b := 207) dX1_settleCell_243 fl_X1_26 rfl (fs_X1 hW hp0) (fp_X1_1 hW hp0) ?_
          refine X.getR (pc := 246) (b := 208) dX1_settleCell_246 fl_X1_131 rfl (fs_X5 hW) (fp_X5_0 hW) ?_
          refine X.iconst (pc := 249) dX1_settleCell_249 ⟨by decide, by decide⟩ ?_
          refine X.iaload (pc := 250) dX1_settleCell_250 (fa_X5_0 hW) ⟨by decide, by decide⟩ ?_
          refine X.aload (pc := 251) (i := 7) 7 dX1_settleCell_251 rfl ?_
          refine X.pick [0, 1, 2, 3, 4, 5, 6] rfl ?_
          obtain ⟨c1, h⟩ := h
          refine X.callV (pc := 253) (vs := []) (st := [vI ((μ) 208 (Int.toNat 0)), vI x6, vI ((μ) p7 1), vR (p0 + 1)]) dX1_settleCell_253 rfl okM_X7_weight rfl lk_X1_147 inst_X7_weight sel_X7_weight (fs_X7 hW hp7) rfl ⟨⟨by decide, by decide⟩, ⟨by decide, by decide⟩, Nat.le_of_ble_eq_true rfl⟩ (Nat.le_of_ble_eq_true rfl) (c_X7_weight hW hp7 c1 ?_)
          refine X.nrm (pc' := 256) (ls' := [(0, vR p0), (1, vI x1), (2, vI x2), (3, vI x3), (4, vI x4), (5, vI x5), (6, vI x6)]) (st' := [vL ((μ) p7 3 * 1048576 + 1), vI ((μ) 208 (Int.toNat 0)), vI x6, vI ((μ) p7 1), vR (p0 + 1)]) (k' := 0) (n' := 0) rfl rfl rfl rfl rfl ?_
          exact X.callV (pc := 256) (vs := [vI ((μ) p7 1), vI x6, vI ((μ) 208 (Int.toNat 0)), vL ((μ) p7 3 * 1048576 + 1)]) (st := []) dX1_settleCell_256 rfl okM_X4_tie rfl lk_X1_155 inst_X4_tie sel_X4_tie (fs_X4 hW (mk_knot hp0)) rfl ⟨⟨by decide, by decide⟩, ⟨by decide, by decide⟩, Nat.le_of_ble_eq_true rfl⟩ (Nat.le_of_ble_eq_true rfl) h
    · have h := h.2 q9
      refine X.aload_n (pc := 164) (i := 0) 0 dX1_settleCell_164 rfl rfl ?_
      refine X.getI (pc := 165) dX1_settleCell_165 fl_X1_34 rfl (fs_X1 hW hp0) ?_
      refine X.if_eq (pc := 168) 181 dX1_settleCell_168 (by decide) ⟨fun q9 => ?_, fun q9 => ?_⟩
      · have h := h.1 q9
        exact h
      · have h := h.2 q9
        refine X.aload (pc := 171) (i := 7) 7 dX1_settleCell_171 rfl ?_
        refine X.getI (pc := 173) dX1_settleCell_173 fl_X1_144 rfl (fs_X7 hW hp7) ?_
        refine X.iload (pc := 176) (i := 5) 5 dX1_settleCell_176 rfl ?_
        refine X.icmp_ne (pc := 178) 271 dX1_settleCell_178 (by decide) ⟨fun q9 => ?_, fun q9 => ?_⟩
        · have h := h.1 q9
          exact X.pick [0, 1, 2, 3, 4, 5, 6] rfl h
        · have h := h.2 q9
          exact h
  · have h := h.2 q9
    refine X.goto (pc := 153) (tgt := 271) dX1_settleCell_153 (by decide) ?_
    exact X.pick [0, 1, 2, 3, 4, 5, 6] rfl h

theorem g_X1_settleCell_181 {sh : List (Nat × Nat)} {ν : Nat → Nat → Option Nat} {μ : Nat → Nat → Int} {f s : Nat} {Q : xQ} (hW : WF sh ν f s) {p0 : Nat} (hp0 : isChart p0) {x1 : Int} {x2 : Int} {x3 : Int} {x4 : Int} {x5 : Int} {x6 : Int} {p7 : Nat} (hp7 : isRule p7)
    (h : (0 ≤ (μ) p7 3 ∧ (μ) p7 3 ≤ 99) ∧ X mX4_gain 0 [(0, vR (p0 + 1)), (1, vI ((μ) p7 1)), (2, vI x6), (3, vL 1), (5, vL ((μ) p7 3 * 1048576 + 1))] [] sh (ν) (μ) 0 0 (fun v sh' ν' μ' => X mX1_settleCell 201 [(0, vR p0), (1, vI x1), (2, vI x2), (3, vI x3), (4, vI x4), (5, vI x5), (6, vI x6)] (v.toList ++ []) sh' ν' μ' 0 0 Q)) :
    X mX1_settleCell 181 [(0, vR p0), (1, vI x1), (2, vI x2), (3, vI x3), (4, vI x4), (5, vI x5), (6, vI x6), (7, vR p7)] [] sh ν μ 0 0 Q := by
  refine X.aload_n (pc := 181) (i := 0) 0 dX1_settleCell_181 rfl rfl ?_
  refine X.getR (pc := 182) (b := (p0 + 1)) dX1_settleCell_182 fl_X1_12 rfl (fs_X1 hW hp0) (fp_X1_12 hW hp0) ?_
  refine X.aload (pc := 185) (i := 7) 7 dX1_settleCell_185 rfl ?_
  refine X.getI (pc := 187) dX1_settleCell_187 fl_X1_109 rfl (fs_X7 hW hp7) ?_
  refine X.iload (pc := 190) (i := 6) 6 dX1_settleCell_190 rfl ?_
  refine X.lconst (pc := 192) (y := 1) dX1_settleCell_192 rfl ⟨by decide, by decide⟩ ?_
  refine X.aload (pc := 193) (i := 7) 7 dX1_settleCell_193 rfl ?_
  refine X.pick [0, 1, 2, 3, 4, 5, 6] rfl ?_
  obtain ⟨c1, h⟩ := h
  refine X.callV (pc := 195) (vs := []) (st := [vL 1, vI x6, vI ((μ) p7 1), vR (p0 + 1)]) dX1_settleCell_195 rfl okM_X7_weight rfl lk_X1_147 inst_X7_weight sel_X7_weight (fs_X7 hW hp7) rfl ⟨⟨by decide, by decide⟩, ⟨by decide, by decide⟩, Nat.le_of_ble_eq_true rfl⟩ (Nat.le_of_ble_eq_true rfl) (c_X7_weight hW hp7 c1 ?_)
  refine X.nrm (pc' := 198) (ls' := [(0, vR p0), (1, vI x1), (2, vI x2), (3, vI x3), (4, vI x4), (5, vI x5), (6, vI x6)]) (st' := [vL ((μ) p7 3 * 1048576 + 1), vL 1, vI x6, vI ((μ) p7 1), vR (p0 + 1)]) (k' := 0) (n' := 0) rfl rfl rfl rfl rfl ?_
  exact X.callV (pc := 198) (vs := [vI ((μ) p7 1), vI x6, vL 1, vL ((μ) p7 3 * 1048576 + 1)]) (st := []) dX1_settleCell_198 rfl okM_X4_gain rfl lk_X1_151 inst_X4_gain sel_X4_gain (fs_X4 hW (mk_knot hp0)) rfl ⟨⟨by decide, by decide⟩, ⟨by decide, by decide⟩, Nat.le_of_ble_eq_true rfl⟩ (Nat.le_of_ble_eq_true rfl) h

theorem g_X1_settleCell_201 {sh : List (Nat × Nat)} {ν : Nat → Nat → Option Nat} {μ : Nat → Nat → Int} {f s : Nat} {Q : xQ} (hW : WF sh ν f s) {p0 : Nat} (hp0 : isChart p0) {x1 : Int} {x2 : Int} {x3 : Int} {x4 : Int} {x5 : Int} {x6 : Int}
    (h : X mX1_settleCell 271 [(0, vR p0), (1, vI x1), (2, vI x2), (3, vI x3), (4, vI x4), (5, vI x5), (6, vI x6)] [] sh (ν) (μ) 0 0 Q) :
    X mX1_settleCell 201 [(0, vR p0), (1, vI x1), (2, vI x2), (3, vI x3), (4, vI x4), (5, vI x5), (6, vI x6)] [] sh ν μ 0 0 Q := by
  refine X.goto (pc := 201) (tgt := 271) dX1_settleCell_201 (by decide) ?_
  exact h

theorem g_X1_settleCell_259 {sh : List (Nat × Nat)} {ν : Nat → Nat → Option Nat} {μ : Nat → Nat → Int} {f s : Nat} {Q : xQ} (hW : WF sh ν f s) {p0 : Nat} (hp0 : isChart p0) {x1 : Int} {x2 : Int} {x3 : Int} {x4 : Int} {x5 : Int} {x6 : Int}
    (h : X mX1_settleCell 271 [(0, vR p0), (1, vI x1), (2, vI x2), (3, vI x3), (4, vI x4), (5, vI x5), (6, vI x6)] [] sh (ν) (μ) 0 0 Q) :
    X mX1_settleCell 259 [(0, vR p0), (1, vI x1), (2, vI x2), (3, vI x3), (4, vI x4), (5, vI x5), (6, vI x6)] [] sh ν μ 0 0 Q := by
  refine X.goto (pc := 259) (tgt := 271) dX1_settleCell_259 (by decide) ?_
  exact h

theorem g_X1_settleCell_262 {sh : List (Nat × Nat)} {ν : Nat → Nat → Option Nat} {μ : Nat → Nat → Int} {f s : Nat} {Q : xQ} (hW : WF sh ν f s) {p0 : Nat} (hp0 : isChart p0) {x1 : Int} {x2 : Int} {x3 : Int} {x4 : Int} {x5 : Int} {x6 : Int} {p7 : Nat} (hp7 : isRule p7)
    (h : X mX1_gainOfParts 0 [(0, vR p0), (1, vI x1), (2, vI x6), (3, vR p7)] [] sh (ν) (μ) 0 0 (fun v sh' ν' μ' => X mX1_settleCell 271 [(0, vR p0), (1, vI x1), (2, vI x2), (3, vI x3), (4, vI x4), (5, vI x5), (6, vI x6)] (v.toList ++ []) sh' ν' μ' 0 0 Q)) :
    X mX1_settleCell 262 [(0, vR p0), (1, vI x1), (2, vI x2), (3, vI x3), (4, vI x4), (5, vI x5), (6, vI x6), (7, vR p7)] [] sh ν μ 0 0 Q := by
  refine X.aload_n (pc := 262) (i := 0) 0 dX1_settleCell_262 rfl rfl ?_
  refine X.iload_n (pc := 263) (i := 1) 1 dX1_settleCell_263 rfl rfl ?_
  refine X.iload (pc := 264) (i := 6) 6 dX1_settleCell_264 rfl ?_
  refine X.aload (pc := 266) (i := 7) 7 dX1_settleCell_266 rfl ?_
  refine X.pick [0, 1, 2, 3, 4, 5, 6] rfl ?_
  exact X.callV (pc := 268) (vs := [vI x1, vI x6, vR p7]) (st := []) dX1_settleCell_268 rfl okM_X1_gainOfParts rfl lk_X1_159 inst_X1_gainOfParts sel_X1_gainOfParts (fs_X1 hW hp0) rfl ⟨⟨by decide, by decide⟩, ⟨by decide, by decide⟩, Nat.le_of_ble_eq_true rfl⟩ (Nat.le_of_ble_eq_true rfl) h

theorem g_X1_settleCell_271 {sh : List (Nat × Nat)} {ν : Nat → Nat → Option Nat} {μ : Nat → Nat → Int} {f s : Nat} {Q : xQ} (hW : WF sh ν f s) {p0 : Nat} (hp0 : isChart p0) {x1 : Int} {x2 : Int} {x3 : Int} {x4 : Int} {x5 : Int} {x6 : Int}
    (h : X mX1_settleCell 102 [(0, vR p0), (1, vI x1), (2, vI x2), (3, vI x3), (4, vI x4), (5, vI x5), (6, vI (w32 (x6 + 1)))] [] sh (ν) (μ) 0 0 Q) :
    X mX1_settleCell 271 [(0, vR p0), (1, vI x1), (2, vI x2), (3, vI x3), (4, vI x4), (5, vI x5), (6, vI x6)] [] sh ν μ 0 0 Q := by
  refine X.iinc (pc := 271) (i := 6) (ls' := [(6, vI (w32 (x6 + 1))), (0, vR p0), (1, vI x1), (2, vI x2), (3, vI x3), (4, vI x4), (5, vI x5)]) 6 dX1_settleCell_271 rfl (by decide) rfl ?_
  refine X.goto (pc := 274) (tgt := 102) dX1_settleCell_274 (by decide) ?_
  exact X.pick [1, 2, 3, 4, 5, 6, 0] rfl h

theorem g_X1_settleCell_284 {sh : List (Nat × Nat)} {ν : Nat → Nat → Option Nat} {μ : Nat → Nat → Int} {f s : Nat} {Q : xQ} (hW : WF sh ν f s) {p0 : Nat} (hp0 : isChart p0) {x1 : Int} {x2 : Int}
    (h : X mX1_keep 0 [(0, vR p0), (1, vI x1), (2, vI x2)] [] sh (ν) (μ) 0 0 (fun v sh' ν' μ' => X mX1_settleCell 290 [] (v.toList ++ []) sh' ν' μ' 0 0 Q)) :
    X mX1_settleCell 284 [(0, vR p0), (1, vI x1), (2, vI x2)] [] sh ν μ 0 0 Q := by
  refine X.aload_n (pc := 284) (i := 0) 0 dX1_settleCell_284 rfl rfl ?_
  refine X.iload_n (pc := 285) (i := 1) 1 dX1_settleCell_285 rfl rfl ?_
  refine X.iload_n (pc := 286) (i := 2) 2 dX1_settleCell_286 rfl rfl ?_
  refine X.pick [] rfl ?_
  exact X.callV (pc := 287) (vs := [vI x1, vI x2]) (st := []) dX1_settleCell_287 rfl okM_X1_keep rfl lk_X1_166 inst_X1_keep sel_X1_keep (fs_X1 hW hp0) rfl ⟨⟨by decide, by decide⟩, ⟨by decide, by decide⟩, Nat.le_of_ble_eq_true rfl⟩ (Nat.le_of_ble_eq_true rfl) h

theorem g_X1_settleCell_290 {sh : List (Nat × Nat)} {ν : Nat → Nat → Option Nat} {μ : Nat → Nat → Int} {f s : Nat} {Q : xQ} (hW : WF sh ν f s) 
    (h : Q none sh (ν) (μ)) :
    X mX1_settleCell 290 [] [] sh ν μ 0 0 Q := by
  exact X.vret (pc := 290) dX1_settleCell_290 rfl (Nat.le_of_ble_eq_true rfl) (Nat.le_of_ble_eq_true rfl) h

theorem g_X1_gainOfParts_0 {sh : List (Nat × Nat)} {ν : Nat → Nat → Option Nat} {μ : Nat → Nat → Int} {f s : Nat} {Q : xQ} (hW : WF sh ν f s) {p0 : Nat} (hp0 : isChart p0) {x1 : Int} {x2 : Int} {p3 : Nat} (hp3 : isRule p3)
    (h : (0 ≤ (μ) p3 3 ∧ (μ) p3 3 ≤ 99) ∧ X mX1_gainOfParts 21 [(0, vR p0), (1, vI x1), (2, vI x2), (3, vR p3), (4, vI (bI ((μ) p3 2 = 2 ∨ (μ) p3 2 = 4))), (5, vI 0), (6, vL 1), (8, vL ((μ) p3 3 * 1048576 + 1)), (10, vI 0)] [] sh (ν) (μ) 0 0 Q) :
    X mX1_gainOfParts 0 [(0, vR p0), (1, vI x1), (2, vI x2), (3, vR p3)] [] sh ν μ 0 0 Q := by
  refine X.aload_n (pc := 0) (i := 3) 3 dX1_gainOfParts_0 rfl rfl ?_
  refine X.callV (pc := 1) (vs := []) (st := []) dX1_gainOfParts_1 rfl okM_X7_isAlongY rfl lk_X1_118 inst_X7_isAlongY sel_X7_isAlongY (fs_X7 hW hp3) rfl ⟨⟨by decide, by decide⟩, ⟨by decide, by decide⟩, Nat.le_of_ble_eq_true rfl⟩ (Nat.le_of_ble_eq_true rfl) (c_X7_isAlongY hW hp3 ?_)
  refine X.nrm (pc' := 4) (ls' := [(0, vR p0), (1, vI x1), (2, vI x2), (3, vR p3)]) (st' := [vI (bI ((μ) p3 2 = 2 ∨ (μ) p3 2 = 4))]) (k' := 0) (n' := 0) rfl rfl rfl rfl rfl ?_
  refine X.istore (pc := 4) (i := 4) (ls' := [(4, vI (bI ((μ) p3 2 = 2 ∨ (μ) p3 2 = 4))), (0, vR p0), (1, vI x1), (2, vI x2), (3, vR p3)]) dX1_gainOfParts_4 (by decide) rfl ?_
  refine X.iconst (pc := 6) dX1_gainOfParts_6 ⟨by decide, by decide⟩ ?_
  refine X.istore (pc := 7) (i := 5) (ls' := [(5, vI 0), (4, vI (bI ((μ) p3 2 = 2 ∨ (μ) p3 2 = 4))), (0, vR p0), (1, vI x1), (2, vI x2), (3, vR p3)]) dX1_gainOfParts_7 (by decide) rfl ?_
  refine X.lconst (pc := 9) (y := 1) dX1_gainOfParts_9 rfl ⟨by decide, by decide⟩ ?_
  refine X.lstore (pc := 10) (i := 6) (ls' := [(6, vL 1), (5, vI 0), (4, vI (bI ((μ) p3 2 = 2 ∨ (μ) p3 2 = 4))), (0, vR p0), (1, vI x1), (2, vI x2), (3, vR p3)]) dX1_gainOfParts_10 (by decide) rfl ?_
  refine X.aload_n (pc := 12) (i := 3) 6 dX1_gainOfParts_12 rfl rfl ?_
  refine X.pick [3, 4, 5, 6, 2, 1, 0] rfl ?_
  obtain ⟨c1, h⟩ := h
  refine X.callV (pc := 13) (vs := []) (st := []) dX1_gainOfParts_13 rfl okM_X7_weight rfl lk_X1_147 inst_X7_weight sel_X7_weight (fs_X7 hW hp3) rfl ⟨⟨by decide, by decide⟩, ⟨by decide, by decide⟩, Nat.le_of_ble_eq_true rfl⟩ (Nat.le_of_ble_eq_true rfl) (c_X7_weight hW hp3 c1 ?_)
  refine X.nrm (pc' := 16) (ls' := [(0, vR p0), (1, vI x1), (2, vI x2), (3, vR p3), (4, vI (bI ((μ) p3 2 = 2 ∨ (μ) p3 2 = 4))), (5, vI 0), (6, vL 1)]) (st' := [vL ((μ) p3 3 * 1048576 + 1)]) (k' := 0) (n' := 0) rfl rfl rfl rfl rfl ?_
  refine X.lstore (pc := 16) (i := 8) (ls' := [(8, vL ((μ) p3 3 * 1048576 + 1)), (0, vR p0), (1, vI x1), (2, vI x2), (3, vR p3), (4, vI (bI ((μ) p3 2 = 2 ∨ (μ) p3 2 = 4))), (5, vI 0), (6, vL 1)]) dX1_gainOfParts_16 (by decide) rfl ?_
  refine X.iconst (pc := 18) dX1_gainOfParts_18 ⟨by decide, by decide⟩ ?_
  refine X.istore (pc := 19) (i := 10) (ls' := [(10, vI 0), (8, vL ((μ) p3 3 * 1048576 + 1)), (0, vR p0), (1, vI x1), (2, vI x2), (3, vR p3), (4, vI (bI ((μ) p3 2 = 2 ∨ (μ) p3 2 = 4))), (5, vI 0), (6, vL 1)]) dX1_gainOfParts_19 (by decide) rfl ?_
  exact X.pick [2, 3, 4, 5, 6, 7, 8, 1, 0] rfl h

theorem g_X1_gainOfParts_21 {sh : List (Nat × Nat)} {ν : Nat → Nat → Option Nat} {μ : Nat → Nat → Int} {f s : Nat} {Q : xQ} (hW : WF sh ν f s) {p0 : Nat} (hp0 : isChart p0) {x1 : Int} {x2 : Int} {p3 : Nat} (hp3 : isRule p3) {x4 : Int} {x5 : Int} {x6 : Int} {x8 : Int} {x10 : Int}
    (h : ((((μ) 207 3) ≤ x10 → ((x5 = 0 → X mX1_gainOfParts 137 [(8, vL x8)] [vL x6, vI x2, vI ((μ) p3 1), vR (p0 + 1)] sh (ν) (μ) 0 0 Q) ∧ (x5 ≠ 0 → X mX1_gainOfParts 137 [(8, vL x8)] [vL (-10), vI x2, vI ((μ) p3 1), vR (p0 + 1)] sh (ν) (μ) 0 0 Q))) ∧ (x10 < ((μ) 207 3) → X mX1_cellOfPart 0 [(0, vR p0), (1, vI x1), (2, vI x4), (3, vI x10)] [] sh (ν) (μ) 0 0 (fun v sh' ν' μ' => X mX1_gainOfParts 42 [(0, vR p0), (1, vI x1), (2, vI x2), (3, vR p3), (4, vI x4), (5, vI x5), (6, vL x6), (8, vL x8), (10, vI x10)] (v.toList ++ []) sh' ν' μ' 0 0 Q)))) :
    X mX1_gainOfParts 21 [(0, vR p0), (1, vI x1), (2, vI x2), (3, vR p3), (4, vI x4), (5, vI x5), (6, vL x6), (8, vL x8), (10, vI x10)] [] sh ν μ 0 0 Q := by
  refine X.iload (pc := 21) (i := 10) 8 dX1_gainOfParts_21 rfl ?_
  refine X.aload_n (pc := 23) (i := 0) 0 dX1_gainOfParts_23 rfl rfl ?_
  refine X.getR (pc := 24) (b := 207) dX1_gainOfParts_24 fl_X1_26 rfl (fs_X1 hW hp0) (fp_X1_1 hW hp0) ?_
  refine X.getI (pc := 27) dX1_gainOfParts_27 fl_X1_126 rfl (fs_X5 hW) ?_
  refine X.icmp_ge (pc := 30) 115 dX1_gainOfParts_30 (by decide) ⟨fun q9 => ?_, fun q9 => ?_⟩
  · have h := h.1 q9
    refine X.aload_n (pc := 115) (i := 0) 0 dX1_gainOfParts_115 rfl rfl ?_
    refine X.getR (pc := 116) (b := (p0 + 1)) dX1_gainOfParts_116 fl_X1_12 rfl (fs_X1 hW hp0) (fp_X1_12 hW hp0) ?_
    refine X.aload_n (pc := 119) (i := 3) 3 dX1_gainOfParts_119 rfl rfl ?_
    refine X.getI (pc := 120) dX1_gainOfParts_120 fl_X1_109 rfl (fs_X7 hW hp3) ?_
    refine X.iload_n (pc := 123) (i := 2) 2 dX1_gainOfParts_123 rfl rfl ?_
    refine X.iload (pc := 124) (i := 5) 5 dX1_gainOfParts_124 rfl ?_
    refine X.if_eq (pc := 126) 135 dX1_gainOfParts_126 (by decide) ⟨fun q9 => ?_, fun q9 => ?_⟩
    · have h := h.1 q9
      refine X.lload (pc := 135) (i := 6) 6 dX1_gainOfParts_135 rfl ?_
      exact X.pick [7] rfl h
    · have h := h.2 q9
      refine X.ldc2 (pc := 129) (y := -10) dX1_gainOfParts_129 kc_X1_173 rfl ⟨by decide, by decide⟩ ?_
      refine X.goto (pc := 132) (tgt := 137) dX1_gainOfParts_132 (by decide) ?_
      exact X.pick [7] rfl h
  · have h := h.2 q9
    refine X.aload_n (pc := 33) (i := 0) 0 dX1_gainOfParts_33 rfl rfl ?_
    refine X.iload_n (pc := 34) (i := 1) 1 dX1_gainOfParts_34 rfl rfl ?_
    refine X.iload (pc := 35) (i := 4) 4 dX1_gainOfParts_35 rfl ?_
    refine X.iload (pc := 37) (i := 10) 8 dX1_gainOfParts_37 rfl ?_
    exact X.callV (pc := 39) (vs := [vI x1, vI x4, vI x10]) (st := []) dX1_gainOfParts_39 rfl okM_X1_cellOfPart rfl lk_X1_127 inst_X1_cellOfPart sel_X1_cellOfPart (fs_X1 hW hp0) rfl ⟨⟨by decide, by decide⟩, ⟨by decide, by decide⟩, Nat.le_of_ble_eq_true rfl⟩ (Nat.le_of_ble_eq_true rfl) h

theorem g_X1_gainOfParts_42 {sh : List (Nat × Nat)} {ν : Nat → Nat → Option Nat} {μ : Nat → Nat → Int} {f s : Nat} {Q : xQ} (hW : WF sh ν f s) {p0 : Nat} (hp0 : isChart p0) {x1 : Int} {x2 : Int} {p3 : Nat} (hp3 : isRule p3) {x4 : Int} {x5 : Int} {x6 : Int} {x8 : Int} {x10 : Int} {y0 : Int}
    (h : (0 ≤ x10 ∧ x10 < (20 : Nat)) ∧ (((rdO ((μ) (p0 + 15) (Int.toNat (w32 ((w32 (y0 * 8)) + ((μ) 208 (Int.toNat x10)))))) 0 (w32 ((w32 (y0 * 8)) + ((μ) 208 (Int.toNat x10)))) (nsp p0 * nsp p0 * 8)) ≠ 0 → (((rdO ((μ) (p0 + 15) (Int.toNat (w32 ((w32 (y0 * 8)) + ((μ) 208 (Int.toNat x10)))))) 0 (w32 ((w32 (y0 * 8)) + ((μ) 208 (Int.toNat x10)))) (nsp p0 * nsp p0 * 8)) ≠ (-10) → ((0 : Int) ≤ x6 ∧ (x6 : Int) ≤ 1000000000000000000) ∧ ((0 : Int) ≤ (rdO ((μ) (p0 + 15) (Int.toNat (w32 ((w32 (y0 * 8)) + ((μ) 208 (Int.toNat x10)))))) 0 (w32 ((w32 (y0 * 8)) + ((μ) 208 (Int.toNat x10)))) (nsp p0 * nsp p0 * 8)) ∧ ((rdO ((μ) (p0 + 15) (Int.toNat (w32 ((w32 (y0 * 8)) + ((μ) 208 (Int.toNat x10)))))) 0 (w32 ((w32 (y0 * 8)) + ((μ) 208 (Int.toNat x10)))) (nsp p0 * nsp p0 * 8)) : Int) ≤ 1000000000000000000) ∧ X mX1_gainOfParts 98 [(0, vR p0), (1, vI x1), (2, vI x2), (3, vR p3), (4, vI x4), (5, vI x5), (6, vL (min (x6 * (rdO ((μ) (p0 + 15) (Int.toNat (w32 ((w32 (y0 * 8)) + ((μ) 208 (Int.toNat x10)))))) 0 (w32 ((w32 (y0 * 8)) + ((μ) 208 (Int.toNat x10)))) (nsp p0 * nsp p0 * 8))) 1000000000000000000)), (8, vL x8), (10, vI x10), (11, vI (w32 ((w32 (y0 * 8)) + ((μ) 208 (Int.toNat x10)))))] [] sh (ν) (μ) 0 0 Q) ∧ ((rdO ((μ) (p0 + 15) (Int.toNat (w32 ((w32 (y0 * 8)) + ((μ) 208 (Int.toNat x10)))))) 0 (w32 ((w32 (y0 * 8)) + ((μ) 208 (Int.toNat x10)))) (nsp p0 * nsp p0 * 8)) = (-10) → X mX1_gainOfParts 98 [(0, vR p0), (1, vI x1), (2, vI x2), (3, vR p3), (4, vI x4), (5, vI 1), (6, vL x6), (8, vL x8), (10, vI x10), (11, vI (w32 ((w32 (y0 * 8)) + ((μ) 208 (Int.toNat x10)))))] [] sh (ν) (μ) 0 0 Q))) ∧ ((rdO ((μ) (p0 + 15) (Int.toNat (w32 ((w32 (y0 * 8)) + ((μ) 208 (Int.toNat x10)))))) 0 (w32 ((w32 (y0 * 8)) + ((μ) 208 (Int.toNat x10)))) (nsp p0 * nsp p0 * 8)) = 0 → Q none sh (ν) (μ)))) :
    X mX1_gainOfParts 42 [(0, vR p0), (1, vI x1), (2, vI x2), (3, vR p3), (4, vI x4), (5, vI x5), (6, vL x6), (8, vL x8), (10, vI x10)] [vI y0] sh ν μ 0 0 Q := by
  refine X.bipush (pc := 42) (y := 8) dX1_gainOfParts_42 rfl ⟨by decide, by decide⟩ ?_
  refine X.imul (pc := 44) dX1_gainOfParts_44 ?_
  refine X.aload_n (pc := 45) (i := 0) 0 dX1_gainOfParts_45 rfl rfl ?_
  refine X.getR (pc := 46) (b := 207) dX1_gainOfParts_46 fl_X1_26 rfl (fs_X1 hW hp0) (fp_X1_1 hW hp0) ?_
  refine X.getR (pc := 49) (b := 208) dX1_gainOfParts_49 fl_X1_131 rfl (fs_X5 hW) (fp_X5_0 hW) ?_
  refine X.iload (pc := 52) (i := 10) 8 dX1_gainOfParts_52 rfl ?_
  obtain ⟨c1, h⟩ := h
  refine X.iaload (pc := 54) dX1_gainOfParts_54 (fa_X5_0 hW) c1 ?_
  refine X.iadd (pc := 55) dX1_gainOfParts_55 ?_
  refine X.istore (pc := 56) (i := 11) (ls' := [(11, vI (w32 ((w32 (y0 * 8)) + ((μ) 208 (Int.toNat x10))))), (0, vR p0), (1, vI x1), (2, vI x2), (3, vR p3), (4, vI x4), (5, vI x5), (6, vL x6), (8, vL x8), (10, vI x10)]) dX1_gainOfParts_56 (by decide) rfl ?_
  refine X.aload_n (pc := 58) (i := 0) 1 dX1_gainOfParts_58 rfl rfl ?_
  refine X.iload (pc := 59) (i := 11) 0 dX1_gainOfParts_59 rfl ?_
  refine X.pick [1, 2, 3, 4, 5, 6, 7, 8, 9, 0] rfl ?_
  refine X.callV (pc := 61) (vs := [vI (w32 ((w32 (y0 * 8)) + ((μ) 208 (Int.toNat x10))))]) (st := []) dX1_gainOfParts_61 rfl okM_X1_waysOf rfl lk_X1_170 inst_X1_waysOf sel_X1_waysOf (fs_X1 hW hp0) rfl ⟨⟨by decide, by decide⟩, ⟨by decide, by decide⟩, Nat.le_of_ble_eq_true rfl⟩ (Nat.le_of_ble_eq_true rfl) (c_X1_waysOf hW hp0 ?_)
  refine X.nrm (pc' := 64) (ls' := [(0, vR p0), (1, vI x1), (2, vI x2), (3, vR p3), (4, vI x4), (5, vI x5), (6, vL x6), (8, vL x8), (10, vI x10), (11, vI (w32 ((w32 (y0 * 8)) + ((μ) 208 (Int.toNat x10)))))]) (st' := [vL (rdO ((μ) (p0 + 15) (Int.toNat (w32 ((w32 (y0 * 8)) + ((μ) 208 (Int.toNat x10)))))) 0 (w32 ((w32 (y0 * 8)) + ((μ) 208 (Int.toNat x10)))) (nsp p0 * nsp p0 * 8))]) (k' := 0) (n' := 0) rfl rfl rfl rfl rfl ?_
  refine X.lstore (pc := 64) (i := 12) (ls' := [(12, vL (rdO ((μ) (p0 + 15) (Int.toNat (w32 ((w32 (y0 * 8)) + ((μ) 208 (Int.toNat x10)))))) 0 (w32 ((w32 (y0 * 8)) + ((μ) 208 (Int.toNat x10)))) (nsp p0 * nsp p0 * 8))), (0, vR p0), (1, vI x1), (2, vI x2), (3, vR p3), (4, vI x4), (5, vI x5), (6, vL x6), (8, vL x8), (10, vI x10), (11, vI (w32 ((w32 (y0 * 8)) + ((μ) 208 (Int.toNat x10)))))]) dX1_gainOfParts_64 (by decide) rfl ?_
  refine X.lload (pc := 66) (i := 12) 0 dX1_gainOfParts_66 rfl ?_
  refine X.lconst (pc := 68) (y := 0) dX1_gainOfParts_68 rfl ⟨by decide, by decide⟩ ?_
  refine X.lcmp (pc := 69) dX1_gainOfParts_69 ?_
  refine X.if_ne (pc := 70) 74 dX1_gainOfParts_70 (by decide) ⟨fun q9 => ?_, fun q9 => ?_⟩
  · have h := h.1 (xl_ne.mp q9)
    refine X.lload (pc := 74) (i := 12) 0 dX1_gainOfParts_74 rfl ?_
    refine X.ldc2 (pc := 76) (y := -10) dX1_gainOfParts_76 kc_X1_173 rfl ⟨by decide, by decide⟩ ?_
    refine X.lcmp (pc := 79) dX1_gainOfParts_79 ?_
    refine X.if_ne (pc := 80) 89 dX1_gainOfParts_80 (by decide) ⟨fun q9 => ?_, fun q9 => ?_⟩
    · have h := h.1 (xl_ne.mp q9)
      refine X.lload (pc := 89) (i := 6) 7 dX1_gainOfParts_89 rfl ?_
      refine X.lload (pc := 91) (i := 12) 0 dX1_gainOfParts_91 rfl ?_
      refine X.pick [1, 2, 3, 4, 5, 6, 8, 9, 10] rfl ?_
      obtain ⟨c2, h⟩ := h
      obtain ⟨c3, h⟩ := h
      refine X.callS (pc := 93) (vs := [vL x6, vL (rdO ((μ) (p0 + 15) (Int.toNat (w32 ((w32 (y0 * 8)) + ((μ) 208 (Int.toNat x10)))))) 0 (w32 ((w32 (y0 * 8)) + ((μ) 208 (Int.toNat x10)))) (nsp p0 * nsp p0 * 8))]) (st := []) dX1_gainOfParts_93 rfl okM_X1_times rfl lk_X1_175 stat_X1_times ⟨⟨by decide, by decide⟩, ⟨by decide, by decide⟩, Nat.le_of_ble_eq_true rfl⟩ (Nat.le_of_ble_eq_true rfl) (c_X1_times hW c2 c3 ?_)
      refine X.nrm (pc' := 96) (ls' := [(0, vR p0), (1, vI x1), (2, vI x2), (3, vR p3), (4, vI x4), (5, vI x5), (8, vL x8), (10, vI x10), (11, vI (w32 ((w32 (y0 * 8)) + ((μ) 208 (Int.toNat x10)))))]) (st' := [vL (min (x6 * (rdO ((μ) (p0 + 15) (Int.toNat (w32 ((w32 (y0 * 8)) + ((μ) 208 (Int.toNat x10)))))) 0 (w32 ((w32 (y0 * 8)) + ((μ) 208 (Int.toNat x10)))) (nsp p0 * nsp p0 * 8))) 1000000000000000000)]) (k' := 0) (n' := 0) rfl rfl rfl rfl rfl ?_
      refine X.lstore (pc := 96) (i := 6) (ls' := [(6, vL (min (x6 * (rdO ((μ) (p0 + 15) (Int.toNat (w32 ((w32 (y0 * 8)) + ((μ) 208 (Int.toNat x10)))))) 0 (w32 ((w32 (y0 * 8)) + ((μ) 208 (Int.toNat x10)))) (nsp p0 * nsp p0 * 8))) 1000000000000000000)), (0, vR p0), (1, vI x1), (2, vI x2), (3, vR p3), (4, vI x4), (5, vI x5), (8, vL x8), (10, vI x10), (11, vI (w32 ((w32 (y0 * 8)) + ((μ) 208 (Int.toNat x10)))))]) dX1_gainOfParts_96 (by decide) rfl ?_
      exact X.pick [1, 2, 3, 4, 5, 6, 0, 7, 8, 9] rfl h
    · have h := h.2 (xl_eq.mp q9)
      refine X.iconst (pc := 83) dX1_gainOfParts_83 ⟨by decide, by decide⟩ ?_
      refine X.istore (pc := 84) (i := 5) (ls' := [(5, vI 1), (12, vL (rdO ((μ) (p0 + 15) (Int.toNat (w32 ((w32 (y0 * 8)) + ((μ) 208 (Int.toNat x10)))))) 0 (w32 ((w32 (y0 * 8)) + ((μ) 208 (Int.toNat x10)))) (nsp p0 * nsp p0 * 8))), (0, vR p0), (1, vI x1), (2, vI x2), (3, vR p3), (4, vI x4), (6, vL x6), (8, vL x8), (10, vI x10), (11, vI (w32 ((w32 (y0 * 8)) + ((μ) 208 (Int.toNat x10)))))]) dX1_gainOfParts_84 (by decide) rfl ?_
      refine X.goto (pc := 86) (tgt := 98) dX1_gainOfParts_86 (by decide) ?_
      exact X.pick [2, 3, 4, 5, 6, 0, 7, 8, 9, 10] rfl h
  · have h := h.2 (xl_eq.mp q9)
    exact X.vret (pc := 73) dX1_gainOfParts_73 rfl (Nat.le_of_ble_eq_true rfl) (Nat.le_of_ble_eq_true rfl) h

theorem g_X1_gainOfParts_98 {sh : List (Nat × Nat)} {ν : Nat → Nat → Option Nat} {μ : Nat → Nat → Int} {f s : Nat} {Q : xQ} (hW : WF sh ν f s) {p0 : Nat} (hp0 : isChart p0) {x1 : Int} {x2 : Int} {p3 : Nat} (hp3 : isRule p3) {x4 : Int} {x5 : Int} {x6 : Int} {x8 : Int} {x10 : Int} {x11 : Int}
    (h : X mX1_gainOfParts 21 [(0, vR p0), (1, vI x1), (2, vI x2), (3, vR p3), (4, vI x4), (5, vI x5), (6, vL x6), (8, vL (w64 (x8 + (rdO ((μ) (p0 + 16) (Int.toNat x11)) (-9) x11 (nsp p0 * nsp p0 * 8))))), (10, vI (w32 (x10 + 1)))] [] sh (ν) (μ) 0 0 Q) :
    X mX1_gainOfParts 98 [(0, vR p0), (1, vI x1), (2, vI x2), (3, vR p3), (4, vI x4), (5, vI x5), (6, vL x6), (8, vL x8), (10, vI x10), (11, vI x11)] [] sh ν μ 0 0 Q := by
  refine X.lload (pc := 98) (i := 8) 7 dX1_gainOfParts_98 rfl ?_
  refine X.aload_n (pc := 100) (i := 0) 0 dX1_gainOfParts_100 rfl rfl ?_
  refine X.iload (pc := 101) (i := 11) 9 dX1_gainOfParts_101 rfl ?_
  refine X.pick [0, 1, 2, 3, 4, 5, 6, 8] rfl ?_
  refine X.callV (pc := 103) (vs := [vI x11]) (st := [vL x8]) dX1_gainOfParts_103 rfl okM_X1_weightOf rfl lk_X1_86 inst_X1_weightOf sel_X1_weightOf (fs_X1 hW hp0) rfl ⟨⟨by decide, by decide⟩, ⟨by decide, by decide⟩, Nat.le_of_ble_eq_true rfl⟩ (Nat.le_of_ble_eq_true rfl) (c_X1_weightOf hW hp0 ?_)
  refine X.nrm (pc' := 106) (ls' := [(0, vR p0), (1, vI x1), (2, vI x2), (3, vR p3), (4, vI x4), (5, vI x5), (6, vL x6), (10, vI x10)]) (st' := [vL (rdO ((μ) (p0 + 16) (Int.toNat x11)) (-9) x11 (nsp p0 * nsp p0 * 8)), vL x8]) (k' := 0) (n' := 0) rfl rfl rfl rfl rfl ?_
  refine X.ladd (pc := 106) dX1_gainOfParts_106 ?_
  refine X.lstore (pc := 107) (i := 8) (ls' := [(8, vL (w64 (x8 + (rdO ((μ) (p0 + 16) (Int.toNat x11)) (-9) x11 (nsp p0 * nsp p0 * 8))))), (0, vR p0), (1, vI x1), (2, vI x2), (3, vR p3), (4, vI x4), (5, vI x5), (6, vL x6), (10, vI x10)]) dX1_gainOfParts_107 (by decide) rfl ?_
  refine X.iinc (pc := 109) (i := 10) (ls' := [(10, vI (w32 (x10 + 1))), (8, vL (w64 (x8 + (rdO ((μ) (p0 + 16) (Int.toNat x11)) (-9) x11 (nsp p0 * nsp p0 * 8))))), (0, vR p0), (1, vI x1), (2, vI x2), (3, vR p3), (4, vI x4), (5, vI x5), (6, vL x6)]) 8 dX1_gainOfParts_109 rfl (by decide) rfl ?_
  refine X.goto (pc := 112) (tgt := 21) dX1_gainOfParts_112 (by decide) ?_
  exact X.pick [2, 3, 4, 5, 6, 7, 8, 1, 0] rfl h

theorem g_X1_gainOfParts_137 {sh : List (Nat × Nat)} {ν : Nat → Nat → Option Nat} {μ : Nat → Nat → Int} {f s : Nat} {Q : xQ} (hW : WF sh ν f s) {x8 : Int} {q0 : Nat} (hq0 : isKnot q0) {y1 : Int} {y2 : Int} {y3 : Int}
    (h : X mX4_gain 0 [(0, vR q0), (1, vI y1), (2, vI y2), (3, vL y3), (5, vL x8)] [] sh (ν) (μ) 0 0 (fun v sh' ν' μ' => X mX1_gainOfParts 142 [] (v.toList ++ []) sh' ν' μ' 0 0 Q)) :
    X mX1_gainOfParts 137 [(8, vL x8)] [vL y3, vI y2, vI y1, vR q0] sh ν μ 0 0 Q := by
  refine X.lload (pc := 137) (i := 8) 0 dX1_gainOfParts_137 rfl ?_
  refine X.pick [] rfl ?_
  exact X.callV (pc := 139) (vs := [vI y1, vI y2, vL y3, vL x8]) (st := []) dX1_gainOfParts_139 rfl okM_X4_gain rfl lk_X1_151 inst_X4_gain sel_X4_gain (fs_X4 hW hq0) rfl ⟨⟨by decide, by decide⟩, ⟨by decide, by decide⟩, Nat.le_of_ble_eq_true rfl⟩ (Nat.le_of_ble_eq_true rfl) h

theorem g_X1_gainOfParts_142 {sh : List (Nat × Nat)} {ν : Nat → Nat → Option Nat} {μ : Nat → Nat → Int} {f s : Nat} {Q : xQ} (hW : WF sh ν f s) 
    (h : Q none sh (ν) (μ)) :
    X mX1_gainOfParts 142 [] [] sh ν μ 0 0 Q := by
  exact X.vret (pc := 142) dX1_gainOfParts_142 rfl (Nat.le_of_ble_eq_true rfl) (Nat.le_of_ble_eq_true rfl) h

theorem g_X1_keep_0 {sh : List (Nat × Nat)} {ν : Nat → Nat → Option Nat} {μ : Nat → Nat → Int} {f s : Nat} {Q : xQ} (hW : WF sh ν f s) {p0 : Nat} (hp0 : isChart p0) {x1 : Int} {x2 : Int}
    (h : X mX1_keep 2 [(0, vR p0), (1, vI x1), (2, vI x2), (3, vI 0)] [] sh (ν) (μ) 0 0 Q) :
    X mX1_keep 0 [(0, vR p0), (1, vI x1), (2, vI x2)] [] sh ν μ 0 0 Q := by
  refine X.iconst (pc := 0) dX1_keep_0 ⟨by decide, by decide⟩ ?_
  refine X.istore_n (pc := 1) (i := 3) (ls' := [(3, vI 0), (0, vR p0), (1, vI x1), (2, vI x2)]) dX1_keep_1 rfl (by decide) rfl ?_
  exact X.pick [1, 2, 3, 0] rfl h

theorem g_X1_keep_2 {sh : List (Nat × Nat)} {ν : Nat → Nat → Option Nat} {μ : Nat → Nat → Int} {f s : Nat} {Q : xQ} (hW : WF sh ν f s) {p0 : Nat} (hp0 : isChart p0) {x1 : Int} {x2 : Int} {x3 : Int}
    (h : ((8 ≤ x3 → (0 ≤ x1 ∧ x1 < ((nsp p0 * nsp p0) : Nat)) ∧ (0 ≤ x1 ∧ x1 < ((nsp p0 * nsp p0) : Nat)) ∧ Q none sh (ν) (up μ (p0 + 14) (Int.toNat x1) (xor_ ((μ) (p0 + 14) (Int.toNat x1)) x2))) ∧ (x3 < 8 → (((xand (xshr x2 x3) 1) = 0 → X mX1_keep 72 [(0, vR p0), (1, vI x1), (2, vI x2), (3, vI x3)] [] sh (ν) (μ) 0 0 Q) ∧ ((xand (xshr x2 x3) 1) ≠ 0 → X mX4_waysOf 0 [(0, vR (p0 + 1)), (1, vI x3)] [] sh (ν) (μ) 0 0 (fun v sh' ν' μ' => X mX1_keep 38 [(0, vR p0), (1, vI x1), (2, vI x2), (3, vI x3), (4, vI (w32 ((w32 (x1 * 8)) + x3)))] (v.toList ++ [vI (w32 ((w32 (x1 * 8)) + x3)), vR (p0 + 15)]) sh' ν' μ' 0 0 Q)))))) :
    X mX1_keep 2 [(0, vR p0), (1, vI x1), (2, vI x2), (3, vI x3)] [] sh ν μ 0 0 Q := by
  refine X.iload_n (pc := 2) (i := 3) 3 dX1_keep_2 rfl rfl ?_
  refine X.bipush (pc := 3) (y := 8) dX1_keep_3 rfl ⟨by decide, by decide⟩ ?_
  refine X.icmp_ge (pc := 5) 78 dX1_keep_5 (by decide) ⟨fun q9 => ?_, fun q9 => ?_⟩
  · have h := h.1 q9
    refine X.aload_n (pc := 78) (i := 0) 0 dX1_keep_78 rfl rfl ?_
    refine X.getR (pc := 79) (b := (p0 + 14)) dX1_keep_79 fl_X1_51 rfl (fs_X1 hW hp0) (fp_X1_8 hW hp0) ?_
    refine X.iload_n (pc := 82) (i := 1) 1 dX1_keep_82 rfl rfl ?_
    refine X.dup2 (pc := 83) dX1_keep_83 rfl rfl ?_
    obtain ⟨c1, h⟩ := h
    refine X.iaload (pc := 84) dX1_keep_84 (fa_X1_8 hW hp0) c1 ?_
    refine X.iload_n (pc := 85) (i := 2) 2 dX1_keep_85 rfl rfl ?_
    refine X.ior (pc := 86) dX1_keep_86 ?_
    obtain ⟨c2, h⟩ := h
    refine X.iastore (pc := 87) dX1_keep_87 (fa_X1_8 hW hp0) c2 ?_
    exact X.vret (pc := 88) dX1_keep_88 rfl (Nat.le_of_ble_eq_true rfl) (Nat.le_of_ble_eq_true rfl) h
  · have h := h.2 q9
    refine X.iload_n (pc := 8) (i := 2) 2 dX1_keep_8 rfl rfl ?_
    refine X.iload_n (pc := 9) (i := 3) 3 dX1_keep_9 rfl rfl ?_
    refine X.ishr (pc := 10) dX1_keep_10 ?_
    refine X.iconst (pc := 11) dX1_keep_11 ⟨by decide, by decide⟩ ?_
    refine X.iand (pc := 12) dX1_keep_12 ?_
    refine X.if_eq (pc := 13) 72 dX1_keep_13 (by decide) ⟨fun q9 => ?_, fun q9 => ?_⟩
    · have h := h.1 q9
      exact h
    · have h := h.2 q9
      refine X.iload_n (pc := 16) (i := 1) 1 dX1_keep_16 rfl rfl ?_
      refine X.bipush (pc := 17) (y := 8) dX1_keep_17 rfl ⟨by decide, by decide⟩ ?_
      refine X.imul (pc := 19) dX1_keep_19 ?_
      refine X.iload_n (pc := 20) (i := 3) 3 dX1_keep_20 rfl rfl ?_
      refine X.iadd (pc := 21) dX1_keep_21 ?_
      refine X.istore (pc := 22) (i := 4) (ls' := [(4, vI (w32 ((w32 (x1 * 8)) + x3))), (0, vR p0), (1, vI x1), (2, vI x2), (3, vI x3)]) dX1_keep_22 (by decide) rfl ?_
      refine X.aload_n (pc := 24) (i := 0) 1 dX1_keep_24 rfl rfl ?_
      refine X.getR (pc := 25) (b := (p0 + 15)) dX1_keep_25 fl_X1_54 rfl (fs_X1 hW hp0) (fp_X1_9 hW hp0) ?_
      refine X.iload (pc := 28) (i := 4) 0 dX1_keep_28 rfl ?_
      refine X.aload_n (pc := 30) (i := 0) 1 dX1_keep_30 rfl rfl ?_
      refine X.getR (pc := 31) (b := (p0 + 1)) dX1_keep_31 fl_X1_12 rfl (fs_X1 hW hp0) (fp_X1_12 hW hp0) ?_
      refine X.iload_n (pc := 34) (i := 3) 4 dX1_keep_34 rfl rfl ?_
      refine X.pick [1, 2, 3, 4, 0] rfl ?_
      exact X.callV (pc := 35) (vs := [vI x3]) (st := [vI (w32 ((w32 (x1 * 8)) + x3)), vR (p0 + 15)]) dX1_keep_35 rfl okM_X4_waysOf rfl lk_X1_179 inst_X4_waysOf sel_X4_waysOf (fs_X4 hW (mk_knot hp0)) rfl ⟨⟨by decide, by decide⟩, ⟨by decide, by decide⟩, Nat.le_of_ble_eq_true rfl⟩ (Nat.le_of_ble_eq_true rfl) h

theorem g_X1_keep_38 {sh : List (Nat × Nat)} {ν : Nat → Nat → Option Nat} {μ : Nat → Nat → Int} {f s : Nat} {Q : xQ} (hW : WF sh ν f s) {p0 : Nat} (hp0 : isChart p0) {x1 : Int} {x2 : Int} {x3 : Int} {x4 : Int} {q0 nq0 : Nat} (hq0 : sh[q0]? = some (1, nq0)) {y1 : Int} {y2 : Int}
    (h : (0 ≤ y1 ∧ y1 < (nq0 : Nat)) ∧ (0 ≤ x3 ∧ x3 < (8 : Nat)) ∧ (0 ≤ x4 ∧ x4 < ((nsp p0 * nsp p0 * 8) : Nat)) ∧ (0 ≤ x3 ∧ x3 < (8 : Nat)) ∧ (0 ≤ x4 ∧ x4 < ((nsp p0 * nsp p0 * 8) : Nat)) ∧ X mX1_keep 72 [(0, vR p0), (1, vI x1), (2, vI x2), (3, vI x3)] [] sh (ν) (up (up (up μ q0 (Int.toNat y1) y2) (p0 + 16) (Int.toNat x4) ((up μ q0 (Int.toNat y1) y2) ((p0 + 1) + 4) (Int.toNat x3))) (p0 + 17) (Int.toNat x4) (w8 (w8 ((up μ q0 (Int.toNat y1) y2) ((p0 + 1) + 5) (Int.toNat x3))))) 0 0 Q) :
    X mX1_keep 38 [(0, vR p0), (1, vI x1), (2, vI x2), (3, vI x3), (4, vI x4)] [vL y2, vI y1, vR q0] sh ν μ 0 0 Q := by
  obtain ⟨c1, h⟩ := h
  refine X.lastore (pc := 38) dX1_keep_38 hq0 c1 ?_
  refine X.aload_n (pc := 39) (i := 0) 0 dX1_keep_39 rfl rfl ?_
  refine X.getR (pc := 40) (b := (p0 + 16)) dX1_keep_40 fl_X1_58 rfl (fs_X1 hW hp0) (fp_X1_10 hW hp0) ?_
  refine X.iload (pc := 43) (i := 4) 4 dX1_keep_43 rfl ?_
  refine X.aload_n (pc := 45) (i := 0) 0 dX1_keep_45 rfl rfl ?_
  refine X.getR (pc := 46) (b := (p0 + 1)) dX1_keep_46 fl_X1_12 rfl (fs_X1 hW hp0) (fp_X1_12 hW hp0) ?_
  refine X.getR (pc := 49) (b := ((p0 + 1) + 4)) dX1_keep_49 fl_X1_180 rfl (fs_X4 hW (mk_knot hp0)) (fp_X4_3 hW (mk_knot hp0)) ?_
  refine X.iload_n (pc := 52) (i := 3) 3 dX1_keep_52 rfl rfl ?_
  obtain ⟨c2, h⟩ := h
  refine X.laload (pc := 53) dX1_keep_53 (fa_X4_3 hW (mk_knot hp0)) c2 ?_
  obtain ⟨c3, h⟩ := h
  refine X.lastore (pc := 54) dX1_keep_54 (fa_X1_10 hW hp0) c3 ?_
  refine X.aload_n (pc := 55) (i := 0) 0 dX1_keep_55 rfl rfl ?_
  refine X.getR (pc := 56) (b := (p0 + 17)) dX1_keep_56 fl_X1_61 rfl (fs_X1 hW hp0) (fp_X1_11 hW hp0) ?_
  refine X.iload (pc := 59) (i := 4) 4 dX1_keep_59 rfl ?_
  refine X.aload_n (pc := 61) (i := 0) 0 dX1_keep_61 rfl rfl ?_
  refine X.getR (pc := 62) (b := (p0 + 1)) dX1_keep_62 fl_X1_12 rfl (fs_X1 hW hp0) (fp_X1_12 hW hp0) ?_
  refine X.getR (pc := 65) (b := ((p0 + 1) + 5)) dX1_keep_65 fl_X1_182 rfl (fs_X4 hW (mk_knot hp0)) (fp_X4_4 hW (mk_knot hp0)) ?_
  refine X.iload_n (pc := 68) (i := 3) 3 dX1_keep_68 rfl rfl ?_
  obtain ⟨c4, h⟩ := h
  refine X.iaload (pc := 69) dX1_keep_69 (fa_X4_4 hW (mk_knot hp0)) c4 ?_
  refine X.topI (y := ((up μ q0 (Int.toNat y1) y2) ((p0 + 1) + 5) (Int.toNat x3))) ((up_a (by omega) _)) ?_
  refine X.i2b (pc := 70) dX1_keep_70 ?_
  obtain ⟨c5, h⟩ := h
  refine X.bastore (pc := 71) dX1_keep_71 (fa_X1_11 hW hp0) c5 ?_
  exact X.pick [0, 1, 2, 3] rfl h

theorem g_X1_keep_72 {sh : List (Nat × Nat)} {ν : Nat → Nat → Option Nat} {μ : Nat → Nat → Int} {f s : Nat} {Q : xQ} (hW : WF sh ν f s) {p0 : Nat} (hp0 : isChart p0) {x1 : Int} {x2 : Int} {x3 : Int}
    (h : X mX1_keep 2 [(0, vR p0), (1, vI x1), (2, vI x2), (3, vI (w32 (x3 + 1)))] [] sh (ν) (μ) 0 0 Q) :
    X mX1_keep 72 [(0, vR p0), (1, vI x1), (2, vI x2), (3, vI x3)] [] sh ν μ 0 0 Q := by
  refine X.iinc (pc := 72) (i := 3) (ls' := [(3, vI (w32 (x3 + 1))), (0, vR p0), (1, vI x1), (2, vI x2)]) 3 dX1_keep_72 rfl (by decide) rfl ?_
  refine X.goto (pc := 75) (tgt := 2) dX1_keep_75 (by decide) ?_
  exact X.pick [1, 2, 3, 0] rfl h

theorem g_X2_paint_0 {sh : List (Nat × Nat)} {ν : Nat → Nat → Option Nat} {μ : Nat → Nat → Int} {f s : Nat} {Q : xQ} (hW : WF sh ν f s) {p0 : Nat} (hp0 : isFront p0) {x1 : Int} {x2 : Int} {x3 : Int} {x4 : Int} {x5 : Int}
    (h : X mX2_paint 3 [(0, vR p0), (1, vI x1), (2, vI x2), (3, vI x3), (4, vI x4), (5, vI x5), (6, vI x2)] [] sh (ν) (μ) 0 0 Q) :
    X mX2_paint 0 [(0, vR p0), (1, vI x1), (2, vI x2), (3, vI x3), (4, vI x4), (5, vI x5)] [] sh ν μ 0 0 Q := by
  refine X.iload_n (pc := 0) (i := 2) 2 dX2_paint_0 rfl rfl ?_
  refine X.istore (pc := 1) (i := 6) (ls' := [(6, vI x2), (0, vR p0), (1, vI x1), (2, vI x2), (3, vI x3), (4, vI x4), (5, vI x5)]) dX2_paint_1 (by decide) rfl ?_
  exact X.pick [1, 2, 3, 4, 5, 6, 0] rfl h

theorem g_X2_paint_3 {sh : List (Nat × Nat)} {ν : Nat → Nat → Option Nat} {μ : Nat → Nat → Int} {f s : Nat} {Q : xQ} (hW : WF sh ν f s) {p0 : Nat} (hp0 : isFront p0) {x1 : Int} {x2 : Int} {x3 : Int} {x4 : Int} {x5 : Int} {x6 : Int}
    (h : (((w32 (x2 + x4)) ≤ x6 → Q none sh (ν) (μ)) ∧ (x6 < (w32 (x2 + x4)) → (((w32 (x1 + (w32 (20 * x6)))) < 0 → X mX2_paint 52 [(0, vR p0), (1, vI x1), (2, vI x2), (3, vI x3), (4, vI x4), (5, vI x5), (6, vI x6)] [] sh (ν) (μ) 0 0 Q) ∧ (0 ≤ (w32 (x1 + (w32 (20 * x6)))) → ((400 < (w32 ((w32 (x1 + (w32 (20 * x6)))) + x3)) → X mX2_paint 52 [(0, vR p0), (1, vI x1), (2, vI x2), (3, vI x3), (4, vI x4), (5, vI x5), (6, vI x6)] [] sh (ν) (μ) 0 0 Q) ∧ ((w32 ((w32 (x1 + (w32 (20 * x6)))) + x3)) ≤ 400 → X mJ7_fill_eb02e 0 [(0, vR (p0 + 1)), (1, vI (w32 (x1 + (w32 (20 * x6))))), (2, vI (w32 ((w32 (x1 + (w32 (20 * x6)))) + x3))), (3, vI (w8 x5))] [] sh (ν) (μ) 0 0 (fun v sh' ν' μ' => X mX2_paint 52 [(0, vR p0), (1, vI x1), (2, vI x2), (3, vI x3), (4, vI x4), (5, vI x5), (6, vI x6)] (v.toList ++ []) sh' ν' μ' 0 0 Q)))))))) :
    X mX2_paint 3 [(0, vR p0), (1, vI x1), (2, vI x2), (3, vI x3), (4, vI x4), (5, vI x5), (6, vI x6)] [] sh ν μ 0 0 Q := by
  refine X.iload (pc := 3) (i := 6) 6 dX2_paint_3 rfl ?_
  refine X.iload_n (pc := 5) (i := 2) 2 dX2_paint_5 rfl rfl ?_
  refine X.iload (pc := 6) (i := 4) 4 dX2_paint_6 rfl ?_
  refine X.iadd (pc := 8) dX2_paint_8 ?_
  refine X.icmp_ge (pc := 9) 58 dX2_paint_9 (by decide) ⟨fun q9 => ?_, fun q9 => ?_⟩
  · have h := h.1 q9
    exact X.vret (pc := 58) dX2_paint_58 rfl (Nat.le_of_ble_eq_true rfl) (Nat.le_of_ble_eq_true rfl) h
  · have h := h.2 q9
    refine X.iload_n (pc := 12) (i := 1) 1 dX2_paint_12 rfl rfl ?_
    refine X.bipush (pc := 13) (y := 20) dX2_paint_13 rfl ⟨by decide, by decide⟩ ?_
    refine X.iload (pc := 15) (i := 6) 6 dX2_paint_15 rfl ?_
    refine X.imul (pc := 17) dX2_paint_17 ?_
    refine X.iadd (pc := 18) dX2_paint_18 ?_
    refine X.istore (pc := 19) (i := 7) (ls' := [(7, vI (w32 (x1 + (w32 (20 * x6))))), (0, vR p0), (1, vI x1), (2, vI x2), (3, vI x3), (4, vI x4), (5, vI x5), (6, vI x6)]) dX2_paint_19 (by decide) rfl ?_
    refine X.iload (pc := 21) (i := 7) 0 dX2_paint_21 rfl ?_
    refine X.if_lt (pc := 23) 52 dX2_paint_23 (by decide) ⟨fun q9 => ?_, fun q9 => ?_⟩
    · have h := h.1 q9
      exact X.pick [1, 2, 3, 4, 5, 6, 7] rfl h
    · have h := h.2 q9
      refine X.iload (pc := 26) (i := 7) 0 dX2_paint_26 rfl ?_
      refine X.iload_n (pc := 28) (i := 3) 4 dX2_paint_28 rfl rfl ?_
      refine X.iadd (pc := 29) dX2_paint_29 ?_
      refine X.sipush (pc := 30) (y := 400) dX2_paint_30 rfl ⟨by decide, by decide⟩ ?_
      refine X.icmp_gt (pc := 33) 52 dX2_paint_33 (by decide) ⟨fun q9 => ?_, fun q9 => ?_⟩
      · have h := h.1 q9
        exact X.pick [1, 2, 3, 4, 5, 6, 7] rfl h
      · have h := h.2 q9
        refine X.aload_n (pc := 36) (i := 0) 1 dX2_paint_36 rfl rfl ?_
        refine X.getR (pc := 37) (b := (p0 + 1)) dX2_paint_37 fl_X2_9 rfl (fs_X2 hW hp0) (fp_X2_0 hW hp0) ?_
        refine X.iload (pc := 40) (i := 7) 0 dX2_paint_40 rfl ?_
        refine X.iload (pc := 42) (i := 7) 0 dX2_paint_42 rfl ?_
        refine X.iload_n (pc := 44) (i := 3) 4 dX2_paint_44 rfl rfl ?_
        refine X.iadd (pc := 45) dX2_paint_45 ?_
        refine X.iload (pc := 46) (i := 5) 6 dX2_paint_46 rfl ?_
        refine X.i2b (pc := 48) dX2_paint_48 ?_
        refine X.pick [1, 2, 3, 4, 5, 6, 7] rfl ?_
        exact X.callS (pc := 49) (vs := [vR (p0 + 1), vI (w32 (x1 + (w32 (20 * x6)))), vI (w32 ((w32 (x1 + (w32 (20 * x6)))) + x3)), vI (w8 x5)]) (st := []) dX2_paint_49 rfl okM_J7_fill_eb02e rfl lk_X2_35 stat_J7_fill_eb02e ⟨⟨by decide, by decide⟩, ⟨by decide, by decide⟩, Nat.le_of_ble_eq_true rfl⟩ (Nat.le_of_ble_eq_true rfl) h

theorem g_X2_paint_52 {sh : List (Nat × Nat)} {ν : Nat → Nat → Option Nat} {μ : Nat → Nat → Int} {f s : Nat} {Q : xQ} (hW : WF sh ν f s) {p0 : Nat} (hp0 : isFront p0) {x1 : Int} {x2 : Int} {x3 : Int} {x4 : Int} {x5 : Int} {x6 : Int}
    (h : X mX2_paint 3 [(0, vR p0), (1, vI x1), (2, vI x2), (3, vI x3), (4, vI x4), (5, vI x5), (6, vI (w32 (x6 + 1)))] [] sh (ν) (μ) 0 0 Q) :
    X mX2_paint 52 [(0, vR p0), (1, vI x1), (2, vI x2), (3, vI x3), (4, vI x4), (5, vI x5), (6, vI x6)] [] sh ν μ 0 0 Q := by
  refine X.iinc (pc := 52) (i := 6) (ls' := [(6, vI (w32 (x6 + 1))), (0, vR p0), (1, vI x1), (2, vI x2), (3, vI x3), (4, vI x4), (5, vI x5)]) 6 dX2_paint_52 rfl (by decide) rfl ?_
  refine X.goto (pc := 55) (tgt := 3) dX2_paint_55 (by decide) ?_
  exact X.pick [1, 2, 3, 4, 5, 6, 0] rfl h

theorem g_X3_addSplit_0 {sh : List (Nat × Nat)} {ν : Nat → Nat → Option Nat} {μ : Nat → Nat → Int} {f s : Nat} {Q : xQ} (hW : WF sh ν f s) {x1 : Int} {x2 : Int} {x3 : Int}
    (h : ((¬ (40 ≤ (μ) 1 2) → (0 ≤ ((μ) 1 2) ∧ ((μ) 1 2) < (40 : Nat)) ∧ ((x2 = 0 → X mX3_addSplit 29 [(0, vR 1), (3, vI x3)] [vI 1, vI x1, vR (7 + 5 * (Int.toNat ((μ) 1 2)))] sh (ν) (μ) 0 0 Q) ∧ (x2 ≠ 0 → X mX3_addSplit 29 [(0, vR 1), (3, vI x3)] [vI 2, vI x1, vR (7 + 5 * (Int.toNat ((μ) 1 2)))] sh (ν) (μ) 0 0 Q))) ∧ ((40 ≤ (μ) 1 2) → Q (some (vI (-4))) sh (ν) (μ)))) :
    X mX3_addSplit 0 [(0, vR 1), (1, vI x1), (2, vI x2), (3, vI x3)] [] sh ν μ 0 0 Q := by
  refine X.aload_n (pc := 0) (i := 0) 0 dX3_addSplit_0 rfl rfl ?_
  refine X.callV (pc := 1) (vs := []) (st := []) dX3_addSplit_1 rfl okM_X3_isFull rfl lk_X3_32 inst_X3_isFull sel_X3_isFull (fs_X3 hW) rfl ⟨⟨by decide, by decide⟩, ⟨by decide, by decide⟩, Nat.le_of_ble_eq_true rfl⟩ (Nat.le_of_ble_eq_true rfl) (c_X3_isFull hW ?_)
  refine X.nrm (pc' := 4) (ls' := [(0, vR 1), (1, vI x1), (2, vI x2), (3, vI x3)]) (st' := [vI (bI (40 ≤ (μ) 1 2))]) (k' := 0) (n' := 0) rfl rfl rfl rfl rfl ?_
  refine X.if_eq (pc := 4) 10 dX3_addSplit_4 (by decide) ⟨fun q9 => ?_, fun q9 => ?_⟩
  · have h := h.1 (bI_eq.mp q9)
    refine X.aload_n (pc := 10) (i := 0) 0 dX3_addSplit_10 rfl rfl ?_
    refine X.getR (pc := 11) (b := 2) dX3_addSplit_11 fl_X3_11 rfl (fs_X3 hW) (fp_X3_0 hW) ?_
    refine X.aload_n (pc := 14) (i := 0) 0 dX3_addSplit_14 rfl rfl ?_
    refine X.getI (pc := 15) dX3_addSplit_15 fl_X3_24 rfl (fs_X3 hW) ?_
    obtain ⟨c1, h⟩ := h
    refine X.aaload (pc := 18) dX3_addSplit_18 (fa_X3_0 hW) (Or.inl rfl) c1 (fe_rules hW c1) ?_
    refine X.iload_n (pc := 19) (i := 1) 1 dX3_addSplit_19 rfl rfl ?_
    refine X.iload_n (pc := 20) (i := 2) 2 dX3_addSplit_20 rfl rfl ?_
    refine X.if_eq (pc := 21) 28 dX3_addSplit_21 (by decide) ⟨fun q9 => ?_, fun q9 => ?_⟩
    · have h := h.1 q9
      refine X.iconst (pc := 28) dX3_addSplit_28 ⟨by decide, by decide⟩ ?_
      exact X.pick [0, 3] rfl h
    · have h := h.2 q9
      refine X.iconst (pc := 24) dX3_addSplit_24 ⟨by decide, by decide⟩ ?_
      refine X.goto (pc := 25) (tgt := 29) dX3_addSplit_25 (by decide) ?_
      exact X.pick [0, 3] rfl h
  · have h := h.2 (bI_ne.mp q9)
    refine X.bipush (pc := 7) (y := -4) dX3_addSplit_7 rfl ⟨by decide, by decide⟩ ?_
    exact X.iret (pc := 9) dX3_addSplit_9 rfl (Nat.le_of_ble_eq_true rfl) (Nat.le_of_ble_eq_true rfl) h

theorem g_X3_addSplit_29 {sh : List (Nat × Nat)} {ν : Nat → Nat → Option Nat} {μ : Nat → Nat → Int} {f s : Nat} {Q : xQ} (hW : WF sh ν f s) {x3 : Int} {q0 : Nat} (hq0 : isRule q0) {y1 : Int} {y2 : Int}
    (h : (0 ≤ ((up (up (up (up (up (up (up (up (up (up (up μ q0 1 y1) q0 2 y2) q0 3 x3) q0 4 (-9)) (q0 + 1) 3 0) (q0 + 1) 4 0) (q0 + 1) 5 0) q0 5 1) q0 6 20) q0 7 1) q0 8 20) 1 2) ∧ ((up (up (up (up (up (up (up (up (up (up (up μ q0 1 y1) q0 2 y2) q0 3 x3) q0 4 (-9)) (q0 + 1) 3 0) (q0 + 1) 4 0) (q0 + 1) 5 0) q0 5 1) q0 6 20) q0 7 1) q0 8 20) 1 2) < (40 : Nat)) ∧ X mX6_copy 0 [(0, vR ((7 + 5 * (Int.toNat ((up (up (up (up (up (up (up (up (up (up (up μ q0 1 y1) q0 2 y2) q0 3 x3) q0 4 (-9)) (q0 + 1) 3 0) (q0 + 1) 4 0) (q0 + 1) 5 0) q0 5 1) q0 6 20) q0 7 1) q0 8 20) 1 2))) + 1)), (1, vR 3)] [] sh (ν) (up (up (up (up (up (up (up (up (up (up (up μ q0 1 y1) q0 2 y2) q0 3 x3) q0 4 (-9)) (q0 + 1) 3 0) (q0 + 1) 4 0) (q0 + 1) 5 0) q0 5 1) q0 6 20) q0 7 1) q0 8 20) 0 0 (fun v sh' ν' μ' => X mX3_addSplit 52 [(0, vR 1)] (v.toList ++ []) sh' ν' μ' 0 0 Q)) :
    X mX3_addSplit 29 [(0, vR 1), (3, vI x3)] [vI y2, vI y1, vR q0] sh ν μ 0 0 Q := by
  refine X.iload_n (pc := 29) (i := 3) 1 dX3_addSplit_29 rfl rfl ?_
  refine X.pick [0] rfl ?_
  refine X.callV (pc := 30) (vs := [vI y1, vI y2, vI x3]) (st := []) dX3_addSplit_30 rfl okM_X7_begin rfl lk_X3_36 inst_X7_begin sel_X7_begin (fs_X7 hW hq0) rfl ⟨⟨by decide, by decide⟩, ⟨by decide, by decide⟩, Nat.le_of_ble_eq_true rfl⟩ (Nat.le_of_ble_eq_true rfl) ?_
  refine X.nrm (pc' := 0) (ls' := [(0, vR q0), (1, vI y1), (2, vI y2), (3, vI x3)]) (st' := []) (k' := 0) (n' := 0) rfl rfl rfl rfl rfl ?_
  refine X.aload_n (pc := 0) (i := 0) 0 dX7_begin_0 rfl rfl ?_
  refine X.iload_n (pc := 1) (i := 1) 1 dX7_begin_1 rfl rfl ?_
  refine X.putI (pc := 2) dX7_begin_2 fl_X7_18 rfl (fun h9 => by cases h9) (fs_X7 hW hq0) (Or.inl rfl) ?_
  refine X.aload_n (pc := 5) (i := 0) 0 dX7_begin_5 rfl rfl ?_
  refine X.iload_n (pc := 6) (i := 2) 2 dX7_begin_6 rfl rfl ?_
  refine X.putI (pc := 7) dX7_begin_7 fl_X7_22 rfl (fun h9 => by cases h9) (fs_X7 hW hq0) (Or.inl rfl) ?_
  refine X.aload_n (pc := 10) (i := 0) 0 dX7_begin_10 rfl rfl ?_
  refine X.iload_n (pc := 11) (i := 3) 3 dX7_begin_11 rfl rfl ?_
  refine X.putI (pc := 12) dX7_begin_12 fl_X7_25 rfl (fun h9 => by cases h9) (fs_X7 hW hq0) (Or.inl rfl) ?_
  refine X.aload_n (pc := 15) (i := 0) 0 dX7_begin_15 rfl rfl ?_
  refine X.bipush (pc := 16) (y := -9) dX7_begin_16 rfl ⟨by decide, by decide⟩ ?_
  refine X.putI (pc := 18) dX7_begin_18 fl_X7_28 rfl (fun h9 => by cases h9) (fs_X7 hW hq0) (Or.inl rfl) ?_
  refine X.aload_n (pc := 21) (i := 0) 0 dX7_begin_21 rfl rfl ?_
  refine X.getR (pc := 22) (b := (q0 + 1)) dX7_begin_22 fl_X7_12 rfl (fs_X7 hW hq0) (fp_X7_0 hW hq0) ?_
  refine X.pick [0] rfl ?_
  refine X.callV (pc := 25) (vs := []) (st := []) dX7_begin_25 rfl okM_X6_empty rfl lk_X7_43 inst_X6_empty sel_X6_empty (fs_X6 hW (mk_rule_parts hq0)) rfl ⟨⟨by decide, by decide⟩, ⟨by decide, by decide⟩, Nat.le_of_ble_eq_true rfl⟩ (Nat.le_of_ble_eq_true rfl) ?_
  refine X.nrm (pc' := 0) (ls' := [(0, vR (q0 + 1))]) (st' := []) (k' := 0) (n' := 0) rfl rfl rfl rfl rfl ?_
  refine X.aload_n (pc := 0) (i := 0) 0 dX6_empty_0 rfl rfl ?_
  refine X.iconst (pc := 1) dX6_empty_1 ⟨by decide, by decide⟩ ?_
  refine X.putI (pc := 2) dX6_empty_2 fl_X6_21 rfl (fun h9 => by cases h9) (fs_X6 hW (mk_rule_parts hq0)) (Or.inl rfl) ?_
  refine X.aload_n (pc := 5) (i := 0) 0 dX6_empty_5 rfl rfl ?_
  refine X.iconst (pc := 6) dX6_empty_6 ⟨by decide, by decide⟩ ?_
  refine X.putI (pc := 7) dX6_empty_7 fl_X6_25 rfl (fun h9 => by cases h9) (fs_X6 hW (mk_rule_parts hq0)) (Or.inl rfl) ?_
  refine X.aload_n (pc := 10) (i := 0) 0 dX6_empty_10 rfl rfl ?_
  refine X.iconst (pc := 11) dX6_empty_11 ⟨by decide, by decide⟩ ?_
  refine X.putI (pc := 12) dX6_empty_12 fl_X6_28 rfl (fun h9 => by cases h9) (fs_X6 hW (mk_rule_parts hq0)) (Or.inl rfl) ?_
  refine X.vret (pc := 15) dX6_empty_15 rfl (Nat.le_of_ble_eq_true rfl) (Nat.le_of_ble_eq_true rfl) ?_
  refine X.nrm (pc' := 28) (ls' := [(0, vR q0)]) (st' := []) (k' := 0) (n' := 0) rfl rfl rfl rfl rfl ?_
  refine X.aload_n (pc := 28) (i := 0) 0 dX7_begin_28 rfl rfl ?_
  refine X.iconst (pc := 29) dX7_begin_29 ⟨by decide, by decide⟩ ?_
  refine X.iconst (pc := 30) dX7_begin_30 ⟨by decide, by decide⟩ ?_
  refine X.bipush (pc := 31) (y := 20) dX7_begin_31 rfl ⟨by decide, by decide⟩ ?_
  refine X.callV (pc := 33) (vs := [vI 0, vI 1, vI 20]) (st := []) dX7_begin_33 rfl okM_X7_limit rfl lk_X7_46 inst_X7_limit sel_X7_limit (fs_X7 hW hq0) rfl ⟨⟨by decide, by decide⟩, ⟨by decide, by decide⟩, Nat.le_of_ble_eq_true rfl⟩ (Nat.le_of_ble_eq_true rfl) ?_
  refine X.nrm (pc' := 0) (ls' := [(0, vR q0), (1, vI 0), (2, vI 1), (3, vI 20)]) (st' := []) (k' := 0) (n' := 0) rfl rfl rfl rfl rfl ?_
  refine X.iload_n (pc := 0) (i := 1) 1 dX7_limit_0 rfl rfl ?_
  refine X.if_eq (pc := 1) 17 dX7_limit_1 (by decide) ⟨fun _ => ?_, fun q9 => absurd q9 (by decide)⟩
  refine X.aload_n (pc := 17) (i := 0) 0 dX7_limit_17 rfl rfl ?_
  refine X.iload_n (pc := 18) (i := 2) 2 dX7_limit_18 rfl rfl ?_
  refine X.putI (pc := 19) dX7_limit_19 fl_X7_31 rfl (fun h9 => by cases h9) (fs_X7 hW hq0) (Or.inl rfl) ?_
  refine X.aload_n (pc := 22) (i := 0) 0 dX7_limit_22 rfl rfl ?_
  refine X.iload_n (pc := 23) (i := 3) 3 dX7_limit_23 rfl rfl ?_
  refine X.putI (pc := 24) dX7_limit_24 fl_X7_34 rfl (fun h9 => by cases h9) (fs_X7 hW hq0) (Or.inl rfl) ?_
  refine X.vret (pc := 27) dX7_limit_27 rfl (Nat.le_of_ble_eq_true rfl) (Nat.le_of_ble_eq_true rfl) ?_
  refine X.nrm (pc' := 36) (ls' := [(0, vR q0)]) (st' := []) (k' := 0) (n' := 0) rfl rfl rfl rfl rfl ?_
  refine X.aload_n (pc := 36) (i := 0) 0 dX7_begin_36 rfl rfl ?_
  refine X.iconst (pc := 37) dX7_begin_37 ⟨by decide, by decide⟩ ?_
  refine X.iconst (pc := 38) dX7_begin_38 ⟨by decide, by decide⟩ ?_
  refine X.bipush (pc := 39) (y := 20) dX7_begin_39 rfl ⟨by decide, by decide⟩ ?_
  refine X.pick [] rfl ?_
  refine X.callV (pc := 41) (vs := [vI 1, vI 1, vI 20]) (st := []) dX7_begin_41 rfl okM_X7_limit rfl lk_X7_46 inst_X7_limit sel_X7_limit (fs_X7 hW hq0) rfl ⟨⟨by decide, by decide⟩, ⟨by decide, by decide⟩, Nat.le_of_ble_eq_true rfl⟩ (Nat.le_of_ble_eq_true rfl) ?_
  refine X.nrm (pc' := 0) (ls' := [(0, vR q0), (1, vI 1), (2, vI 1), (3, vI 20)]) (st' := []) (k' := 0) (n' := 0) rfl rfl rfl rfl rfl ?_
  refine X.iload_n (pc := 0) (i := 1) 1 dX7_limit_0 rfl rfl ?_
  refine X.if_eq (pc := 1) 17 dX7_limit_1 (by decide) ⟨fun q9 => absurd q9 (by decide), fun _ => ?_⟩
  refine X.aload_n (pc := 4) (i := 0) 0 dX7_limit_4 rfl rfl ?_
  refine X.iload_n (pc := 5) (i := 2) 2 dX7_limit_5 rfl rfl ?_
  refine X.putI (pc := 6) dX7_limit_6 fl_X7_37 rfl (fun h9 => by cases h9) (fs_X7 hW hq0) (Or.inl rfl) ?_
  refine X.aload_n (pc := 9) (i := 0) 0 dX7_limit_9 rfl rfl ?_
  refine X.iload_n (pc := 10) (i := 3) 3 dX7_limit_10 rfl rfl ?_
  refine X.putI (pc := 11) dX7_limit_11 fl_X7_40 rfl (fun h9 => by cases h9) (fs_X7 hW hq0) (Or.inl rfl) ?_
  refine X.goto (pc := 14) (tgt := 27) dX7_limit_14 (by decide) ?_
  refine X.vret (pc := 27) dX7_limit_27 rfl (Nat.le_of_ble_eq_true rfl) (Nat.le_of_ble_eq_true rfl) ?_
  refine X.nrm (pc' := 44) (ls' := []) (st' := []) (k' := 0) (n' := 0) rfl rfl rfl rfl rfl ?_
  refine X.vret (pc := 44) dX7_begin_44 rfl (Nat.le_of_ble_eq_true rfl) (Nat.le_of_ble_eq_true rfl) ?_
  refine X.nrm (pc' := 33) (ls' := [(0, vR 1)]) (st' := []) (k' := 0) (n' := 0) rfl rfl rfl rfl rfl ?_
  refine X.aload_n (pc := 33) (i := 0) 0 dX3_addSplit_33 rfl rfl ?_
  refine X.getR (pc := 34) (b := 2) dX3_addSplit_34 fl_X3_11 rfl (fs_X3 hW) (fp_X3_0 hW) ?_
  refine X.aload_n (pc := 37) (i := 0) 0 dX3_addSplit_37 rfl rfl ?_
  refine X.getI (pc := 38) dX3_addSplit_38 fl_X3_24 rfl (fs_X3 hW) ?_
  obtain ⟨c1, h⟩ := h
  refine X.aaload (pc := 41) dX3_addSplit_41 (fa_X3_0 hW) (Or.inl rfl) c1 (fe_rules hW c1) ?_
  refine X.getR (pc := 42) (b := ((7 + 5 * (Int.toNat ((up (up (up (up (up (up (up (up (up (up (up μ q0 1 y1) q0 2 y2) q0 3 x3) q0 4 (-9)) (q0 + 1) 3 0) (q0 + 1) 4 0) (q0 + 1) 5 0) q0 5 1) q0 6 20) q0 7 1) q0 8 20) 1 2))) + 1)) dX3_addSplit_42 fl_X3_43 rfl (fs_X7 hW (mk_rules c1)) (fp_X7_0 hW (mk_rules c1)) ?_
  refine X.aload_n (pc := 45) (i := 0) 0 dX3_addSplit_45 rfl rfl ?_
  refine X.getR (pc := 46) (b := 3) dX3_addSplit_46 fl_X3_20 rfl (fs_X3 hW) (fp_X3_1 hW) ?_
  exact X.callV (pc := 49) (vs := [vR 3]) (st := []) dX3_addSplit_49 rfl okM_X6_copy rfl lk_X3_46 inst_X6_copy sel_X6_copy (fs_X6 hW (mk_rule_parts (mk_rules c1))) rfl ⟨⟨by decide, by decide⟩, ⟨by decide, by decide⟩, Nat.le_of_ble_eq_true rfl⟩ (Nat.le_of_ble_eq_true rfl) h

theorem g_X3_addSplit_52 {sh : List (Nat × Nat)} {ν : Nat → Nat → Option Nat} {μ : Nat → Nat → Int} {f s : Nat} {Q : xQ} (hW : WF sh ν f s) 
    (h : Q (some (vI ((μ) 1 2))) sh (ν) (up (up (up (up μ 3 3 0) 3 4 0) 3 5 0) 1 2 (w32 (((μ) 1 2) + 1)))) :
    X mX3_addSplit 52 [(0, vR 1)] [] sh ν μ 0 0 Q := by
  refine X.aload_n (pc := 52) (i := 0) 0 dX3_addSplit_52 rfl rfl ?_
  refine X.getR (pc := 53) (b := 3) dX3_addSplit_53 fl_X3_20 rfl (fs_X3 hW) (fp_X3_1 hW) ?_
  refine X.callV (pc := 56) (vs := []) (st := []) dX3_addSplit_56 rfl okM_X6_empty rfl lk_X3_29 inst_X6_empty sel_X6_empty (fs_X6 hW mk_coll) rfl ⟨⟨by decide, by decide⟩, ⟨by decide, by decide⟩, Nat.le_of_ble_eq_true rfl⟩ (Nat.le_of_ble_eq_true rfl) ?_
  refine X.nrm (pc' := 0) (ls' := [(0, vR 3)]) (st' := []) (k' := 0) (n' := 0) rfl rfl rfl rfl rfl ?_
  refine X.aload_n (pc := 0) (i := 0) 0 dX6_empty_0 rfl rfl ?_
  refine X.iconst (pc := 1) dX6_empty_1 ⟨by decide, by decide⟩ ?_
  refine X.putI (pc := 2) dX6_empty_2 fl_X6_21 rfl (fun h9 => by cases h9) (fs_X6 hW mk_coll) (Or.inl rfl) ?_
  refine X.aload_n (pc := 5) (i := 0) 0 dX6_empty_5 rfl rfl ?_
  refine X.iconst (pc := 6) dX6_empty_6 ⟨by decide, by decide⟩ ?_
  refine X.putI (pc := 7) dX6_empty_7 fl_X6_25 rfl (fun h9 => by cases h9) (fs_X6 hW mk_coll) (Or.inl rfl) ?_
  refine X.aload_n (pc := 10) (i := 0) 0 dX6_empty_10 rfl rfl ?_
  refine X.iconst (pc := 11) dX6_empty_11 ⟨by decide, by decide⟩ ?_
  refine X.putI (pc := 12) dX6_empty_12 fl_X6_28 rfl (fun h9 => by cases h9) (fs_X6 hW mk_coll) (Or.inl rfl) ?_
  refine X.vret (pc := 15) dX6_empty_15 rfl (Nat.le_of_ble_eq_true rfl) (Nat.le_of_ble_eq_true rfl) ?_
  refine X.nrm (pc' := 59) (ls' := [(0, vR 1)]) (st' := []) (k' := 0) (n' := 0) rfl rfl rfl rfl rfl ?_
  refine X.aload_n (pc := 59) (i := 0) 0 dX3_addSplit_59 rfl rfl ?_
  refine X.dup (pc := 60) dX3_addSplit_60 rfl ?_
  refine X.getI (pc := 61) dX3_addSplit_61 fl_X3_24 rfl (fs_X3 hW) ?_
  refine X.topI (y := ((μ) 1 2)) (Eq.trans (up_a (by decide) _) (Eq.trans (up_a (by decide) _) ((up_a (by decide) _)))) ?_
  refine X.dup_x1 (pc := 64) dX3_addSplit_64 rfl rfl ?_
  refine X.iconst (pc := 65) dX3_addSplit_65 ⟨by decide, by decide⟩ ?_
  refine X.iadd (pc := 66) dX3_addSplit_66 ?_
  refine X.putI (pc := 67) dX3_addSplit_67 fl_X3_24 rfl (fun h9 => by cases h9) (fs_X3 hW) (Or.inl rfl) ?_
  exact X.iret (pc := 70) dX3_addSplit_70 rfl (Nat.le_of_ble_eq_true rfl) (Nat.le_of_ble_eq_true rfl) h

theorem g_X3_addRepeat_0 {sh : List (Nat × Nat)} {ν : Nat → Nat → Option Nat} {μ : Nat → Nat → Int} {f s : Nat} {Q : xQ} (hW : WF sh ν f s) {x1 : Int} {x2 : Int} {x3 : Int} {x4 : Int} {x5 : Int}
    (h : ((¬ (40 ≤ (μ) 1 2) → (0 ≤ ((μ) 1 2) ∧ ((μ) 1 2) < (40 : Nat)) ∧ ((x4 = 0 → X mX3_addRepeat 30 [(0, vR 1), (2, vI x2), (3, vI x3), (5, vI x5)] [vI 3, vI x1, vR (7 + 5 * (Int.toNat ((μ) 1 2)))] sh (ν) (μ) 0 0 Q) ∧ (x4 ≠ 0 → X mX3_addRepeat 30 [(0, vR 1), (2, vI x2), (3, vI x3), (5, vI x5)] [vI 4, vI x1, vR (7 + 5 * (Int.toNat ((μ) 1 2)))] sh (ν) (μ) 0 0 Q))) ∧ ((40 ≤ (μ) 1 2) → Q (some (vI (-4))) sh (ν) (μ)))) :
    X mX3_addRepeat 0 [(0, vR 1), (1, vI x1), (2, vI x2), (3, vI x3), (4, vI x4), (5, vI x5)] [] sh ν μ 0 0 Q := by
  refine X.aload_n (pc := 0) (i := 0) 0 dX3_addRepeat_0 rfl rfl ?_
  refine X.callV (pc := 1) (vs := []) (st := []) dX3_addRepeat_1 rfl okM_X3_isFull rfl lk_X3_32 inst_X3_isFull sel_X3_isFull (fs_X3 hW) rfl ⟨⟨by decide, by decide⟩, ⟨by decide, by decide⟩, Nat.le_of_ble_eq_true rfl⟩ (Nat.le_of_ble_eq_true rfl) (c_X3_isFull hW ?_)
  refine X.nrm (pc' := 4) (ls' := [(0, vR 1), (1, vI x1), (2, vI x2), (3, vI x3), (4, vI x4), (5, vI x5)]) (st' := [vI (bI (40 ≤ (μ) 1 2))]) (k' := 0) (n' := 0) rfl rfl rfl rfl rfl ?_
  refine X.if_eq (pc := 4) 10 dX3_addRepeat_4 (by decide) ⟨fun q9 => ?_, fun q9 => ?_⟩
  · have h := h.1 (bI_eq.mp q9)
    refine X.aload_n (pc := 10) (i := 0) 0 dX3_addRepeat_10 rfl rfl ?_
    refine X.getR (pc := 11) (b := 2) dX3_addRepeat_11 fl_X3_11 rfl (fs_X3 hW) (fp_X3_0 hW) ?_
    refine X.aload_n (pc := 14) (i := 0) 0 dX3_addRepeat_14 rfl rfl ?_
    refine X.getI (pc := 15) dX3_addRepeat_15 fl_X3_24 rfl (fs_X3 hW) ?_
    obtain ⟨c1, h⟩ := h
    refine X.aaload (pc := 18) dX3_addRepeat_18 (fa_X3_0 hW) (Or.inl rfl) c1 (fe_rules hW c1) ?_
    refine X.iload_n (pc := 19) (i := 1) 1 dX3_addRepeat_19 rfl rfl ?_
    refine X.iload (pc := 20) (i := 4) 4 dX3_addRepeat_20 rfl ?_
    refine X.if_eq (pc := 22) 29 dX3_addRepeat_22 (by decide) ⟨fun q9 => ?_, fun q9 => ?_⟩
    · have h := h.1 q9
      refine X.iconst (pc := 29) dX3_addRepeat_29 ⟨by decide, by decide⟩ ?_
      exact X.pick [0, 2, 3, 5] rfl h
    · have h := h.2 q9
      refine X.iconst (pc := 25) dX3_addRepeat_25 ⟨by decide, by decide⟩ ?_
      refine X.goto (pc := 26) (tgt := 30) dX3_addRepeat_26 (by decide) ?_
      exact X.pick [0, 2, 3, 5] rfl h
  · have h := h.2 (bI_ne.mp q9)
    refine X.bipush (pc := 7) (y := -4) dX3_addRepeat_7 rfl ⟨by decide, by decide⟩ ?_
    exact X.iret (pc := 9) dX3_addRepeat_9 rfl (Nat.le_of_ble_eq_true rfl) (Nat.le_of_ble_eq_true rfl) h

theorem g_X3_addRepeat_30 {sh : List (Nat × Nat)} {ν : Nat → Nat → Option Nat} {μ : Nat → Nat → Int} {f s : Nat} {Q : xQ} (hW : WF sh ν f s) {x2 : Int} {x3 : Int} {x5 : Int} {q0 : Nat} (hq0 : isRule q0) {y1 : Int} {y2 : Int}
    (h : (0 ≤ ((up (up (up (up (up (up (up (up (up (up (up μ q0 1 y1) q0 2 y2) q0 3 x5) q0 4 (-9)) (q0 + 1) 3 0) (q0 + 1) 4 0) (q0 + 1) 5 0) q0 5 1) q0 6 20) q0 7 1) q0 8 20) 1 2) ∧ ((up (up (up (up (up (up (up (up (up (up (up μ q0 1 y1) q0 2 y2) q0 3 x5) q0 4 (-9)) (q0 + 1) 3 0) (q0 + 1) 4 0) (q0 + 1) 5 0) q0 5 1) q0 6 20) q0 7 1) q0 8 20) 1 2) < (40 : Nat)) ∧ X mX6_add 0 [(0, vR ((7 + 5 * (Int.toNat ((up (up (up (up (up (up (up (up (up (up (up μ q0 1 y1) q0 2 y2) q0 3 x5) q0 4 (-9)) (q0 + 1) 3 0) (q0 + 1) 4 0) (q0 + 1) 5 0) q0 5 1) q0 6 20) q0 7 1) q0 8 20) 1 2))) + 1)), (1, vI x2), (2, vI x3), (3, vI 0)] [] sh (ν) (up (up (up (up (up (up (up (up (up (up (up μ q0 1 y1) q0 2 y2) q0 3 x5) q0 4 (-9)) (q0 + 1) 3 0) (q0 + 1) 4 0) (q0 + 1) 5 0) q0 5 1) q0 6 20) q0 7 1) q0 8 20) 0 0 (fun v sh' ν' μ' => X mX3_addRepeat 53 [(0, vR 1)] (v.toList ++ []) sh' ν' μ' 0 0 Q)) :
    X mX3_addRepeat 30 [(0, vR 1), (2, vI x2), (3, vI x3), (5, vI x5)] [vI y2, vI y1, vR q0] sh ν μ 0 0 Q := by
  refine X.iload (pc := 30) (i := 5) 3 dX3_addRepeat_30 rfl ?_
  refine X.pick [0, 1, 2] rfl ?_
  refine X.callV (pc := 32) (vs := [vI y1, vI y2, vI x5]) (st := []) dX3_addRepeat_32 rfl okM_X7_begin rfl lk_X3_36 inst_X7_begin sel_X7_begin (fs_X7 hW hq0) rfl ⟨⟨by decide, by decide⟩, ⟨by decide, by decide⟩, Nat.le_of_ble_eq_true rfl⟩ (Nat.le_of_ble_eq_true rfl) ?_
  refine X.nrm (pc' := 0) (ls' := [(0, vR q0), (1, vI y1), (2, vI y2), (3, vI x5)]) (st' := []) (k' := 0) (n' := 0) rfl rfl rfl rfl rfl ?_
  refine X.aload_n (pc := 0) (i := 0) 0 dX7_begin_0 rfl rfl ?_
  refine X.iload_n (pc := 1) (i := 1) 1 dX7_begin_1 rfl rfl ?_
  refine X.putI (pc := 2) dX7_begin_2 fl_X7_18 rfl (fun h9 => by cases h9) (fs_X7 hW hq0) (Or.inl rfl) ?_
  refine X.aload_n (pc := 5) (i := 0) 0 dX7_begin_5 rfl rfl ?_
  refine X.iload_n (pc := 6) (i := 2) 2 dX7_begin_6 rfl rfl ?_
  refine X.putI (pc := 7) dX7_begin_7 fl_X7_22 rfl (fun h9 => by cases h9) (fs_X7 hW hq0) (Or.inl rfl) ?_
  refine X.aload_n (pc := 10) (i := 0) 0 dX7_begin_10 rfl rfl ?_
  refine X.iload_n (pc := 11) (i := 3) 3 dX7_begin_11 rfl rfl ?_
  refine X.putI (pc := 12) dX7_begin_12 fl_X7_25 rfl (fun h9 => by cases h9) (fs_X7 hW hq0) (Or.inl rfl) ?_
  refine X.aload_n (pc := 15) (i := 0) 0 dX7_begin_15 rfl rfl ?_
  refine X.bipush (pc := 16) (y := -9) dX7_begin_16 rfl ⟨by decide, by decide⟩ ?_
  refine X.putI (pc := 18) dX7_begin_18 fl_X7_28 rfl (fun h9 => by cases h9) (fs_X7 hW hq0) (Or.inl rfl) ?_
  refine X.aload_n (pc := 21) (i := 0) 0 dX7_begin_21 rfl rfl ?_
  refine X.getR (pc := 22) (b := (q0 + 1)) dX7_begin_22 fl_X7_12 rfl (fs_X7 hW hq0) (fp_X7_0 hW hq0) ?_
  refine X.pick [0] rfl ?_
  refine X.callV (pc := 25) (vs := []) (st := []) dX7_begin_25 rfl okM_X6_empty rfl lk_X7_43 inst_X6_empty sel_X6_empty (fs_X6 hW (mk_rule_parts hq0)) rfl ⟨⟨by decide, by decide⟩, ⟨by decide, by decide⟩, Nat.le_of_ble_eq_true rfl⟩ (Nat.le_of_ble_eq_true rfl) ?_
  refine X.nrm (pc' := 0) (ls' := [(0, vR (q0 + 1))]) (st' := []) (k' := 0) (n' := 0) rfl rfl rfl rfl rfl ?_
  refine X.aload_n (pc := 0) (i := 0) 0 dX6_empty_0 rfl rfl ?_
  refine X.iconst (pc := 1) dX6_empty_1 ⟨by decide, by decide⟩ ?_
  refine X.putI (pc := 2) dX6_empty_2 fl_X6_21 rfl (fun h9 => by cases h9) (fs_X6 hW (mk_rule_parts hq0)) (Or.inl rfl) ?_
  refine X.aload_n (pc := 5) (i := 0) 0 dX6_empty_5 rfl rfl ?_
  refine X.iconst (pc := 6) dX6_empty_6 ⟨by decide, by decide⟩ ?_
  refine X.putI (pc := 7) dX6_empty_7 fl_X6_25 rfl (fun h9 => by cases h9) (fs_X6 hW (mk_rule_parts hq0)) (Or.inl rfl) ?_
  refine X.aload_n (pc := 10) (i := 0) 0 dX6_empty_10 rfl rfl ?_
  refine X.iconst (pc := 11) dX6_empty_11 ⟨by decide, by decide⟩ ?_
  refine X.putI (pc := 12) dX6_empty_12 fl_X6_28 rfl (fun h9 => by cases h9) (fs_X6 hW (mk_rule_parts hq0)) (Or.inl rfl) ?_
  refine X.vret (pc := 15) dX6_empty_15 rfl (Nat.le_of_ble_eq_true rfl) (Nat.le_of_ble_eq_true rfl) ?_
  refine X.nrm (pc' := 28) (ls' := [(0, vR q0)]) (st' := []) (k' := 0) (n' := 0) rfl rfl rfl rfl rfl ?_
  refine X.aload_n (pc := 28) (i := 0) 0 dX7_begin_28 rfl rfl ?_
  refine X.iconst (pc := 29) dX7_begin_29 ⟨by decide, by decide⟩ ?_
  refine X.iconst (pc := 30) dX7_begin_30 ⟨by decide, by decide⟩ ?_
  refine X.bipush (pc := 31) (y := 20) dX7_begin_31 rfl ⟨by decide, by decide⟩ ?_
  refine X.callV (pc := 33) (vs := [vI 0, vI 1, vI 20]) (st := []) dX7_begin_33 rfl okM_X7_limit rfl lk_X7_46 inst_X7_limit sel_X7_limit (fs_X7 hW hq0) rfl ⟨⟨by decide, by decide⟩, ⟨by decide, by decide⟩, Nat.le_of_ble_eq_true rfl⟩ (Nat.le_of_ble_eq_true rfl) ?_
  refine X.nrm (pc' := 0) (ls' := [(0, vR q0), (1, vI 0), (2, vI 1), (3, vI 20)]) (st' := []) (k' := 0) (n' := 0) rfl rfl rfl rfl rfl ?_
  refine X.iload_n (pc := 0) (i := 1) 1 dX7_limit_0 rfl rfl ?_
  refine X.if_eq (pc := 1) 17 dX7_limit_1 (by decide) ⟨fun _ => ?_, fun q9 => absurd q9 (by decide)⟩
  refine X.aload_n (pc := 17) (i := 0) 0 dX7_limit_17 rfl rfl ?_
  refine X.iload_n (pc := 18) (i := 2) 2 dX7_limit_18 rfl rfl ?_
  refine X.putI (pc := 19) dX7_limit_19 fl_X7_31 rfl (fun h9 => by cases h9) (fs_X7 hW hq0) (Or.inl rfl) ?_
  refine X.aload_n (pc := 22) (i := 0) 0 dX7_limit_22 rfl rfl ?_
  refine X.iload_n (pc := 23) (i := 3) 3 dX7_limit_23 rfl rfl ?_
  refine X.putI (pc := 24) dX7_limit_24 fl_X7_34 rfl (fun h9 => by cases h9) (fs_X7 hW hq0) (Or.inl rfl) ?_
  refine X.vret (pc := 27) dX7_limit_27 rfl (Nat.le_of_ble_eq_true rfl) (Nat.le_of_ble_eq_true rfl) ?_
  refine X.nrm (pc' := 36) (ls' := [(0, vR q0)]) (st' := []) (k' := 0) (n' := 0) rfl rfl rfl rfl rfl ?_
  refine X.aload_n (pc := 36) (i := 0) 0 dX7_begin_36 rfl rfl ?_
  refine X.iconst (pc := 37) dX7_begin_37 ⟨by decide, by decide⟩ ?_
  refine X.iconst (pc := 38) dX7_begin_38 ⟨by decide, by decide⟩ ?_
  refine X.bipush (pc := 39) (y := 20) dX7_begin_39 rfl ⟨by decide, by decide⟩ ?_
  refine X.pick [] rfl ?_
  refine X.callV (pc := 41) (vs := [vI 1, vI 1, vI 20]) (st := []) dX7_begin_41 rfl okM_X7_limit rfl lk_X7_46 inst_X7_limit sel_X7_limit (fs_X7 hW hq0) rfl ⟨⟨by decide, by decide⟩, ⟨by decide, by decide⟩, Nat.le_of_ble_eq_true rfl⟩ (Nat.le_of_ble_eq_true rfl) ?_
  refine X.nrm (pc' := 0) (ls' := [(0, vR q0), (1, vI 1), (2, vI 1), (3, vI 20)]) (st' := []) (k' := 0) (n' := 0) rfl rfl rfl rfl rfl ?_
  refine X.iload_n (pc := 0) (i := 1) 1 dX7_limit_0 rfl rfl ?_
  refine X.if_eq (pc := 1) 17 dX7_limit_1 (by decide) ⟨fun q9 => absurd q9 (by decide), fun _ => ?_⟩
  refine X.aload_n (pc := 4) (i := 0) 0 dX7_limit_4 rfl rfl ?_
  refine X.iload_n (pc := 5) (i := 2) 2 dX7_limit_5 rfl rfl ?_
  refine X.putI (pc := 6) dX7_limit_6 fl_X7_37 rfl (fun h9 => by cases h9) (fs_X7 hW hq0) (Or.inl rfl) ?_
  refine X.aload_n (pc := 9) (i := 0) 0 dX7_limit_9 rfl rfl ?_
  refine X.iload_n (pc := 10) (i := 3) 3 dX7_limit_10 rfl rfl ?_
  refine X.putI (pc := 11) dX7_limit_11 fl_X7_40 rfl (fun h9 => by cases h9) (fs_X7 hW hq0) (Or.inl rfl) ?_
  refine X.goto (pc := 14) (tgt := 27) dX7_limit_14 (by decide) ?_
  refine X.vret (pc := 27) dX7_limit_27 rfl (Nat.le_of_ble_eq_true rfl) (Nat.le_of_ble_eq_true rfl) ?_
  refine X.nrm (pc' := 44) (ls' := []) (st' := []) (k' := 0) (n' := 0) rfl rfl rfl rfl rfl ?_
  refine X.vret (pc := 44) dX7_begin_44 rfl (Nat.le_of_ble_eq_true rfl) (Nat.le_of_ble_eq_true rfl) ?_
  refine X.nrm (pc' := 35) (ls' := [(0, vR 1), (2, vI x2), (3, vI x3)]) (st' := []) (k' := 0) (n' := 0) rfl rfl rfl rfl rfl ?_
  refine X.aload_n (pc := 35) (i := 0) 0 dX3_addRepeat_35 rfl rfl ?_
  refine X.getR (pc := 36) (b := 2) dX3_addRepeat_36 fl_X3_11 rfl (fs_X3 hW) (fp_X3_0 hW) ?_
  refine X.aload_n (pc := 39) (i := 0) 0 dX3_addRepeat_39 rfl rfl ?_
  refine X.getI (pc := 40) dX3_addRepeat_40 fl_X3_24 rfl (fs_X3 hW) ?_
  obtain ⟨c1, h⟩ := h
  refine X.aaload (pc := 43) dX3_addRepeat_43 (fa_X3_0 hW) (Or.inl rfl) c1 (fe_rules hW c1) ?_
  refine X.getR (pc := 44) (b := ((7 + 5 * (Int.toNat ((up (up (up (up (up (up (up (up (up (up (up μ q0 1 y1) q0 2 y2) q0 3 x5) q0 4 (-9)) (q0 + 1) 3 0) (q0 + 1) 4 0) (q0 + 1) 5 0) q0 5 1) q0 6 20) q0 7 1) q0 8 20) 1 2))) + 1)) dX3_addRepeat_44 fl_X3_43 rfl (fs_X7 hW (mk_rules c1)) (fp_X7_0 hW (mk_rules c1)) ?_
  refine X.iload_n (pc := 47) (i := 2) 1 dX3_addRepeat_47 rfl rfl ?_
  refine X.iload_n (pc := 48) (i := 3) 2 dX3_addRepeat_48 rfl rfl ?_
  refine X.iconst (pc := 49) dX3_addRepeat_49 ⟨by decide, by decide⟩ ?_
  refine X.pick [0] rfl ?_
  exact X.callV (pc := 50) (vs := [vI x2, vI x3, vI 0]) (st := []) dX3_addRepeat_50 rfl okM_X6_add rfl lk_X3_50 inst_X6_add sel_X6_add (fs_X6 hW (mk_rule_parts (mk_rules c1))) rfl ⟨⟨by decide, by decide⟩, ⟨by decide, by decide⟩, Nat.le_of_ble_eq_true rfl⟩ (Nat.le_of_ble_eq_true rfl) h

theorem g_X3_addRepeat_53 {sh : List (Nat × Nat)} {ν : Nat → Nat → Option Nat} {μ : Nat → Nat → Int} {f s : Nat} {Q : xQ} (hW : WF sh ν f s) 
    (h : Q (some (vI ((μ) 1 2))) sh (ν) (up μ 1 2 (w32 (((μ) 1 2) + 1)))) :
    X mX3_addRepeat 53 [(0, vR 1)] [] sh ν μ 0 0 Q := by
  refine X.aload_n (pc := 53) (i := 0) 0 dX3_addRepeat_53 rfl rfl ?_
  refine X.dup (pc := 54) dX3_addRepeat_54 rfl ?_
  refine X.getI (pc := 55) dX3_addRepeat_55 fl_X3_24 rfl (fs_X3 hW) ?_
  refine X.dup_x1 (pc := 58) dX3_addRepeat_58 rfl rfl ?_
  refine X.iconst (pc := 59) dX3_addRepeat_59 ⟨by decide, by decide⟩ ?_
  refine X.iadd (pc := 60) dX3_addRepeat_60 ?_
  refine X.putI (pc := 61) dX3_addRepeat_61 fl_X3_24 rfl (fun h9 => by cases h9) (fs_X3 hW) (Or.inl rfl) ?_
  exact X.iret (pc := 64) dX3_addRepeat_64 rfl (Nat.le_of_ble_eq_true rfl) (Nat.le_of_ble_eq_true rfl) h

theorem g_X4_settle_0 {sh : List (Nat × Nat)} {ν : Nat → Nat → Option Nat} {μ : Nat → Nat → Int} {f s : Nat} {Q : xQ} (hW : WF sh ν f s) {p0 : Nat} (hp0 : isKnot p0)
    (h : ((((μ) p0 9) ≤ 0 → X mX4_settle 38 [] [] sh (ν) (cpy μ (p0 + 1) (p0 + 2) 8) 0 0 Q) ∧ (0 < ((μ) p0 9) → X mX4_findEndless 0 [(0, vR p0)] [] sh (ν) (cpy μ (p0 + 1) (p0 + 2) 8) 0 0 (fun v sh' ν' μ' => X mX4_settle 26 [(0, vR p0)] (v.toList ++ []) sh' ν' μ' 0 0 Q)))) :
    X mX4_settle 0 [(0, vR p0)] [] sh ν μ 0 0 Q := by
  refine X.aload_n (pc := 0) (i := 0) 0 dX4_settle_0 rfl rfl ?_
  refine X.getR (pc := 1) (b := (p0 + 1)) dX4_settle_1 fl_X4_9 rfl (fs_X4 hW hp0) (fp_X4_0 hW hp0) ?_
  refine X.iconst (pc := 4) dX4_settle_4 ⟨by decide, by decide⟩ ?_
  refine X.aload_n (pc := 5) (i := 0) 0 dX4_settle_5 rfl rfl ?_
  refine X.getR (pc := 6) (b := (p0 + 2)) dX4_settle_6 fl_X4_15 rfl (fs_X4 hW hp0) (fp_X4_1 hW hp0) ?_
  refine X.iconst (pc := 9) dX4_settle_9 ⟨by decide, by decide⟩ ?_
  refine X.bipush (pc := 10) (y := 8) dX4_settle_10 rfl ⟨by decide, by decide⟩ ?_
  refine X.copyl (pc := 12) dX4_settle_12 lk_X4_64 w_yn w_ys w_yi (fa_X4_0 hW hp0) (fa_X4_1 hW hp0) (by decide) (by decide) (Nat.le_of_ble_eq_true rfl) ?_
  refine X.aload_n (pc := 15) (i := 0) 0 dX4_settle_15 rfl rfl ?_
  refine X.getI (pc := 16) dX4_settle_16 fl_X4_40 rfl (fs_X4 hW hp0) ?_
  refine X.topI (y := ((μ) p0 9)) ((congrFun (cpy_o _ (by omega)) _)) ?_
  refine X.if_le (pc := 19) 38 dX4_settle_19 (by decide) ⟨fun q9 => ?_, fun q9 => ?_⟩
  · have h := h.1 q9
    exact X.pick [] rfl h
  · have h := h.2 q9
    refine X.aload_n (pc := 22) (i := 0) 0 dX4_settle_22 rfl rfl ?_
    exact X.callV (pc := 23) (vs := []) (st := []) dX4_settle_23 rfl okM_X4_findEndless rfl lk_X4_70 inst_X4_findEndless sel_X4_findEndless (fs_X4 hW hp0) rfl ⟨⟨by decide, by decide⟩, ⟨by decide, by decide⟩, Nat.le_of_ble_eq_true rfl⟩ (Nat.le_of_ble_eq_true rfl) h

theorem g_X4_settle_26 {sh : List (Nat × Nat)} {ν : Nat → Nat → Option Nat} {μ : Nat → Nat → Int} {f s : Nat} {Q : xQ} (hW : WF sh ν f s) {p0 : Nat} (hp0 : isKnot p0)
    (h : X mX4_sumTies 0 [(0, vR p0)] [] sh (ν) (μ) 0 0 (fun v sh' ν' μ' => X mX4_settle 30 [(0, vR p0)] (v.toList ++ []) sh' ν' μ' 0 0 Q)) :
    X mX4_settle 26 [(0, vR p0)] [] sh ν μ 0 0 Q := by
  refine X.aload_n (pc := 26) (i := 0) 0 dX4_settle_26 rfl rfl ?_
  exact X.callV (pc := 27) (vs := []) (st := []) dX4_settle_27 rfl okM_X4_sumTies rfl lk_X4_73 inst_X4_sumTies sel_X4_sumTies (fs_X4 hW hp0) rfl ⟨⟨by decide, by decide⟩, ⟨by decide, by decide⟩, Nat.le_of_ble_eq_true rfl⟩ (Nat.le_of_ble_eq_true rfl) h

theorem g_X4_settle_30 {sh : List (Nat × Nat)} {ν : Nat → Nat → Option Nat} {μ : Nat → Nat → Int} {f s : Nat} {Q : xQ} (hW : WF sh ν f s) {p0 : Nat} (hp0 : isKnot p0)
    (h : X mX4_lightenByTies 0 [(0, vR p0)] [] sh (ν) (μ) 0 0 (fun v sh' ν' μ' => X mX4_settle 34 [(0, vR p0)] (v.toList ++ []) sh' ν' μ' 0 0 Q)) :
    X mX4_settle 30 [(0, vR p0)] [] sh ν μ 0 0 Q := by
  refine X.aload_n (pc := 30) (i := 0) 0 dX4_settle_30 rfl rfl ?_
  exact X.callV (pc := 31) (vs := []) (st := []) dX4_settle_31 rfl okM_X4_lightenByTies rfl lk_X4_76 inst_X4_lightenByTies sel_X4_lightenByTies (fs_X4 hW hp0) rfl ⟨⟨by decide, by decide⟩, ⟨by decide, by decide⟩, Nat.le_of_ble_eq_true rfl⟩ (Nat.le_of_ble_eq_true rfl) h

theorem g_X4_settle_34 {sh : List (Nat × Nat)} {ν : Nat → Nat → Option Nat} {μ : Nat → Nat → Int} {f s : Nat} {Q : xQ} (hW : WF sh ν f s) {p0 : Nat} (hp0 : isKnot p0)
    (h : X mX4_pickAmongTies 0 [(0, vR p0)] [] sh (ν) (μ) 0 0 (fun v sh' ν' μ' => X mX4_settle 38 [] (v.toList ++ []) sh' ν' μ' 0 0 Q)) :
    X mX4_settle 34 [(0, vR p0)] [] sh ν μ 0 0 Q := by
  refine X.aload_n (pc := 34) (i := 0) 0 dX4_settle_34 rfl rfl ?_
  refine X.pick [] rfl ?_
  exact X.callV (pc := 35) (vs := []) (st := []) dX4_settle_35 rfl okM_X4_pickAmongTies rfl lk_X4_79 inst_X4_pickAmongTies sel_X4_pickAmongTies (fs_X4 hW hp0) rfl ⟨⟨by decide, by decide⟩, ⟨by decide, by decide⟩, Nat.le_of_ble_eq_true rfl⟩ (Nat.le_of_ble_eq_true rfl) h

theorem g_X4_settle_38 {sh : List (Nat × Nat)} {ν : Nat → Nat → Option Nat} {μ : Nat → Nat → Int} {f s : Nat} {Q : xQ} (hW : WF sh ν f s) 
    (h : Q none sh (ν) (μ)) :
    X mX4_settle 38 [] [] sh ν μ 0 0 Q := by
  exact X.vret (pc := 38) dX4_settle_38 rfl (Nat.le_of_ble_eq_true rfl) (Nat.le_of_ble_eq_true rfl) h

theorem g_X4_findEndless_0 {sh : List (Nat × Nat)} {ν : Nat → Nat → Option Nat} {μ : Nat → Nat → Int} {f s : Nat} {Q : xQ} (hW : WF sh ν f s) {p0 : Nat} (hp0 : isKnot p0)
    (h : X mX4_findEndless 4 [(0, vR p0), (1, vI 0), (2, vI 0)] [] sh (ν) (μ) 0 0 Q) :
    X mX4_findEndless 0 [(0, vR p0)] [] sh ν μ 0 0 Q := by
  refine X.iconst (pc := 0) dX4_findEndless_0 ⟨by decide, by decide⟩ ?_
  refine X.istore_n (pc := 1) (i := 1) (ls' := [(1, vI 0), (0, vR p0)]) dX4_findEndless_1 rfl (by decide) rfl ?_
  refine X.iconst (pc := 2) dX4_findEndless_2 ⟨by decide, by decide⟩ ?_
  refine X.istore_n (pc := 3) (i := 2) (ls' := [(2, vI 0), (1, vI 0), (0, vR p0)]) dX4_findEndless_3 rfl (by decide) rfl ?_
  exact X.pick [2, 1, 0] rfl h

theorem g_X4_findEndless_4 {sh : List (Nat × Nat)} {ν : Nat → Nat → Option Nat} {μ : Nat → Nat → Int} {f s : Nat} {Q : xQ} (hW : WF sh ν f s) {p0 : Nat} (hp0 : isKnot p0) {x1 : Int} {x2 : Int}
    (h : ((8 ≤ x2 → X mX4_findEndless 35 [(0, vR p0), (1, vI x1), (2, vI 0)] [] sh (ν) (μ) 0 0 Q) ∧ (x2 < 8 → (0 ≤ x2 ∧ x2 < (8 : Nat)) ∧ ((((μ) (p0 + 4) (Int.toNat x2)) < 0 → X mX4_findEndless 27 [(0, vR p0), (1, vI x1), (2, vI x2)] [] sh (ν) (μ) 0 0 Q) ∧ (0 ≤ ((μ) (p0 + 4) (Int.toNat x2)) → X mX4_findEndless 27 [(0, vR p0), (1, vI (xor_ x1 (xshl 1 x2))), (2, vI x2)] [] sh (ν) (μ) 0 0 Q))))) :
    X mX4_findEndless 4 [(0, vR p0), (1, vI x1), (2, vI x2)] [] sh ν μ 0 0 Q := by
  refine X.iload_n (pc := 4) (i := 2) 2 dX4_findEndless_4 rfl rfl ?_
  refine X.bipush (pc := 5) (y := 8) dX4_findEndless_5 rfl ⟨by decide, by decide⟩ ?_
  refine X.icmp_ge (pc := 7) 33 dX4_findEndless_7 (by decide) ⟨fun q9 => ?_, fun q9 => ?_⟩
  · have h := h.1 q9
    refine X.iconst (pc := 33) dX4_findEndless_33 ⟨by decide, by decide⟩ ?_
    refine X.istore_n (pc := 34) (i := 2) (ls' := [(2, vI 0), (0, vR p0), (1, vI x1)]) dX4_findEndless_34 rfl (by decide) rfl ?_
    exact X.pick [1, 2, 0] rfl h
  · have h := h.2 q9
    refine X.aload_n (pc := 10) (i := 0) 0 dX4_findEndless_10 rfl rfl ?_
    refine X.getR (pc := 11) (b := (p0 + 4)) dX4_findEndless_11 fl_X4_21 rfl (fs_X4 hW hp0) (fp_X4_3 hW hp0) ?_
    refine X.iload_n (pc := 14) (i := 2) 2 dX4_findEndless_14 rfl rfl ?_
    obtain ⟨c1, h⟩ := h
    refine X.laload (pc := 15) dX4_findEndless_15 (fa_X4_3 hW hp0) c1 ?_
    refine X.lconst (pc := 16) (y := 0) dX4_findEndless_16 rfl ⟨by decide, by decide⟩ ?_
    refine X.lcmp (pc := 17) dX4_findEndless_17 ?_
    refine X.if_lt (pc := 18) 27 dX4_findEndless_18 (by decide) ⟨fun q9 => ?_, fun q9 => ?_⟩
    · have h := h.1 (xl_lt.mp q9)
      exact h
    · have h := h.2 (xl_ge.mp q9)
      refine X.iload_n (pc := 21) (i := 1) 1 dX4_findEndless_21 rfl rfl ?_
      refine X.iconst (pc := 22) dX4_findEndless_22 ⟨by decide, by decide⟩ ?_
      refine X.iload_n (pc := 23) (i := 2) 2 dX4_findEndless_23 rfl rfl ?_
      refine X.ishl (pc := 24) dX4_findEndless_24 ?_
      refine X.ior (pc := 25) dX4_findEndless_25 ?_
      refine X.istore_n (pc := 26) (i := 1) (ls' := [(1, vI (xor_ x1 (xshl 1 x2))), (0, vR p0), (2, vI x2)]) dX4_findEndless_26 rfl (by decide) rfl ?_
      exact X.pick [1, 0, 2] rfl h

theorem g_X4_findEndless_27 {sh : List (Nat × Nat)} {ν : Nat → Nat → Option Nat} {μ : Nat → Nat → Int} {f s : Nat} {Q : xQ} (hW : WF sh ν f s) {p0 : Nat} (hp0 : isKnot p0) {x1 : Int} {x2 : Int}
    (h : X mX4_findEndless 4 [(0, vR p0), (1, vI x1), (2, vI (w32 (x2 + 1)))] [] sh (ν) (μ) 0 0 Q) :
    X mX4_findEndless 27 [(0, vR p0), (1, vI x1), (2, vI x2)] [] sh ν μ 0 0 Q := by
  refine X.iinc (pc := 27) (i := 2) (ls' := [(2, vI (w32 (x2 + 1))), (0, vR p0), (1, vI x1)]) 2 dX4_findEndless_27 rfl (by decide) rfl ?_
  refine X.goto (pc := 30) (tgt := 4) dX4_findEndless_30 (by decide) ?_
  exact X.pick [1, 2, 0] rfl h

theorem g_X4_findEndless_35 {sh : List (Nat × Nat)} {ν : Nat → Nat → Option Nat} {μ : Nat → Nat → Int} {f s : Nat} {Q : xQ} (hW : WF sh ν f s) {p0 : Nat} (hp0 : isKnot p0) {x1 : Int} {x2 : Int}
    (h : ((8 ≤ x2 → X mX4_findEndless 59 [(0, vR p0), (2, vI x1), (3, vI 0)] [] sh (ν) (μ) 0 0 Q) ∧ (x2 < 8 → X mX4_tiedTo 0 [(0, vR p0), (1, vI x1)] [] sh (ν) (μ) 0 0 (fun v sh' ν' μ' => X mX4_findEndless 47 [(0, vR p0), (2, vI x2)] (v.toList ++ [vI x1]) sh' ν' μ' 0 0 Q)))) :
    X mX4_findEndless 35 [(0, vR p0), (1, vI x1), (2, vI x2)] [] sh ν μ 0 0 Q := by
  refine X.iload_n (pc := 35) (i := 2) 2 dX4_findEndless_35 rfl rfl ?_
  refine X.bipush (pc := 36) (y := 8) dX4_findEndless_36 rfl ⟨by decide, by decide⟩ ?_
  refine X.icmp_ge (pc := 38) 55 dX4_findEndless_38 (by decide) ⟨fun q9 => ?_, fun q9 => ?_⟩
  · have h := h.1 q9
    refine X.iload_n (pc := 55) (i := 1) 1 dX4_findEndless_55 rfl rfl ?_
    refine X.istore_n (pc := 56) (i := 2) (ls' := [(2, vI x1), (0, vR p0), (1, vI x1)]) dX4_findEndless_56 rfl (by decide) rfl ?_
    refine X.iconst (pc := 57) dX4_findEndless_57 ⟨by decide, by decide⟩ ?_
    refine X.istore_n (pc := 58) (i := 3) (ls' := [(3, vI 0), (2, vI x1), (0, vR p0), (1, vI x1)]) dX4_findEndless_58 rfl (by decide) rfl ?_
    exact X.pick [2, 1, 0] rfl h
  · have h := h.2 q9
    refine X.iload_n (pc := 41) (i := 1) 1 dX4_findEndless_41 rfl rfl ?_
    refine X.aload_n (pc := 42) (i := 0) 0 dX4_findEndless_42 rfl rfl ?_
    refine X.iload_n (pc := 43) (i := 1) 1 dX4_findEndless_43 rfl rfl ?_
    refine X.pick [0, 2] rfl ?_
    exact X.callV (pc := 44) (vs := [vI x1]) (st := [vI x1]) dX4_findEndless_44 rfl okM_X4_tiedTo rfl lk_X4_82 inst_X4_tiedTo sel_X4_tiedTo (fs_X4 hW hp0) rfl ⟨⟨by decide, by decide⟩, ⟨by decide, by decide⟩, Nat.le_of_ble_eq_true rfl⟩ (Nat.le_of_ble_eq_true rfl) h

theorem g_X4_findEndless_47 {sh : List (Nat × Nat)} {ν : Nat → Nat → Option Nat} {μ : Nat → Nat → Int} {f s : Nat} {Q : xQ} (hW : WF sh ν f s) {p0 : Nat} (hp0 : isKnot p0) {x2 : Int} {y0 : Int} {y1 : Int}
    (h : X mX4_findEndless 35 [(0, vR p0), (1, vI (xor_ y0 y1)), (2, vI (w32 (x2 + 1)))] [] sh (ν) (μ) 0 0 Q) :
    X mX4_findEndless 47 [(0, vR p0), (2, vI x2)] [vI y1, vI y0] sh ν μ 0 0 Q := by
  refine X.ior (pc := 47) dX4_findEndless_47 ?_
  refine X.istore_n (pc := 48) (i := 1) (ls' := [(1, vI (xor_ y0 y1)), (0, vR p0), (2, vI x2)]) dX4_findEndless_48 rfl (by decide) rfl ?_
  refine X.iinc (pc := 49) (i := 2) (ls' := [(2, vI (w32 (x2 + 1))), (1, vI (xor_ y0 y1)), (0, vR p0)]) 2 dX4_findEndless_49 rfl (by decide) rfl ?_
  refine X.goto (pc := 52) (tgt := 35) dX4_findEndless_52 (by decide) ?_
  exact X.pick [2, 1, 0] rfl h

theorem g_X4_findEndless_59 {sh : List (Nat × Nat)} {ν : Nat → Nat → Option Nat} {μ : Nat → Nat → Int} {f s : Nat} {Q : xQ} (hW : WF sh ν f s) {p0 : Nat} (hp0 : isKnot p0) {x2 : Int} {x3 : Int}
    (h : ((8 ≤ x3 → X mX4_findEndless 89 [(0, vR p0), (3, vI 0)] [] sh (ν) (up μ p0 10 (xor_ ((μ) p0 10) x2)) 0 0 Q) ∧ (x3 < 8 → X mX4_tiedTo 0 [(0, vR p0), (1, vI x2)] [] sh (ν) (μ) 0 0 (fun v sh' ν' μ' => X mX4_findEndless 70 [(0, vR p0), (3, vI x3)] (v.toList ++ []) sh' ν' μ' 0 0 Q)))) :
    X mX4_findEndless 59 [(0, vR p0), (2, vI x2), (3, vI x3)] [] sh ν μ 0 0 Q := by
  refine X.iload_n (pc := 59) (i := 3) 2 dX4_findEndless_59 rfl rfl ?_
  refine X.bipush (pc := 60) (y := 8) dX4_findEndless_60 rfl ⟨by decide, by decide⟩ ?_
  refine X.icmp_ge (pc := 62) 77 dX4_findEndless_62 (by decide) ⟨fun q9 => ?_, fun q9 => ?_⟩
  · have h := h.1 q9
    refine X.aload_n (pc := 77) (i := 0) 0 dX4_findEndless_77 rfl rfl ?_
    refine X.dup (pc := 78) dX4_findEndless_78 rfl ?_
    refine X.getI (pc := 79) dX4_findEndless_79 fl_X4_44 rfl (fs_X4 hW hp0) ?_
    refine X.iload_n (pc := 82) (i := 2) 1 dX4_findEndless_82 rfl rfl ?_
    refine X.ior (pc := 83) dX4_findEndless_83 ?_
    refine X.putI (pc := 84) dX4_findEndless_84 fl_X4_44 rfl (fun h9 => by cases h9) (fs_X4 hW hp0) (Or.inl rfl) ?_
    refine X.iconst (pc := 87) dX4_findEndless_87 ⟨by decide, by decide⟩ ?_
    refine X.istore_n (pc := 88) (i := 3) (ls' := [(3, vI 0), (0, vR p0), (2, vI x2)]) dX4_findEndless_88 rfl (by decide) rfl ?_
    exact X.pick [1, 0] rfl h
  · have h := h.2 q9
    refine X.aload_n (pc := 65) (i := 0) 0 dX4_findEndless_65 rfl rfl ?_
    refine X.iload_n (pc := 66) (i := 2) 1 dX4_findEndless_66 rfl rfl ?_
    refine X.pick [0, 2] rfl ?_
    exact X.callV (pc := 67) (vs := [vI x2]) (st := []) dX4_findEndless_67 rfl okM_X4_tiedTo rfl lk_X4_82 inst_X4_tiedTo sel_X4_tiedTo (fs_X4 hW hp0) rfl ⟨⟨by decide, by decide⟩, ⟨by decide, by decide⟩, Nat.le_of_ble_eq_true rfl⟩ (Nat.le_of_ble_eq_true rfl) h

theorem g_X4_findEndless_70 {sh : List (Nat × Nat)} {ν : Nat → Nat → Option Nat} {μ : Nat → Nat → Int} {f s : Nat} {Q : xQ} (hW : WF sh ν f s) {p0 : Nat} (hp0 : isKnot p0) {x3 : Int} {y0 : Int}
    (h : X mX4_findEndless 59 [(0, vR p0), (2, vI y0), (3, vI (w32 (x3 + 1)))] [] sh (ν) (μ) 0 0 Q) :
    X mX4_findEndless 70 [(0, vR p0), (3, vI x3)] [vI y0] sh ν μ 0 0 Q := by
  refine X.istore_n (pc := 70) (i := 2) (ls' := [(2, vI y0), (0, vR p0), (3, vI x3)]) dX4_findEndless_70 rfl (by decide) rfl ?_
  refine X.iinc (pc := 71) (i := 3) (ls' := [(3, vI (w32 (x3 + 1))), (2, vI y0), (0, vR p0)]) 2 dX4_findEndless_71 rfl (by decide) rfl ?_
  refine X.goto (pc := 74) (tgt := 59) dX4_findEndless_74 (by decide) ?_
  exact X.pick [2, 1, 0] rfl h

theorem g_X4_findEndless_89 {sh : List (Nat × Nat)} {ν : Nat → Nat → Option Nat} {μ : Nat → Nat → Int} {f s : Nat} {Q : xQ} (hW : WF sh ν f s) {p0 : Nat} (hp0 : isKnot p0) {x3 : Int}
    (h : ((8 ≤ x3 → Q none sh (ν) (μ)) ∧ (x3 < 8 → X mX4_tiedTo 0 [(0, vR p0), (1, vI ((μ) p0 10))] [] sh (ν) (μ) 0 0 (fun v sh' ν' μ' => X mX4_findEndless 108 [(0, vR p0), (3, vI x3)] (v.toList ++ [vI ((μ) p0 10), vR p0]) sh' ν' μ' 0 0 Q)))) :
    X mX4_findEndless 89 [(0, vR p0), (3, vI x3)] [] sh ν μ 0 0 Q := by
  refine X.iload_n (pc := 89) (i := 3) 1 dX4_findEndless_89 rfl rfl ?_
  refine X.bipush (pc := 90) (y := 8) dX4_findEndless_90 rfl ⟨by decide, by decide⟩ ?_
  refine X.icmp_ge (pc := 92) 118 dX4_findEndless_92 (by decide) ⟨fun q9 => ?_, fun q9 => ?_⟩
  · have h := h.1 q9
    exact X.vret (pc := 118) dX4_findEndless_118 rfl (Nat.le_of_ble_eq_true rfl) (Nat.le_of_ble_eq_true rfl) h
  · have h := h.2 q9
    refine X.aload_n (pc := 95) (i := 0) 0 dX4_findEndless_95 rfl rfl ?_
    refine X.dup (pc := 96) dX4_findEndless_96 rfl ?_
    refine X.getI (pc := 97) dX4_findEndless_97 fl_X4_44 rfl (fs_X4 hW hp0) ?_
    refine X.aload_n (pc := 100) (i := 0) 0 dX4_findEndless_100 rfl rfl ?_
    refine X.aload_n (pc := 101) (i := 0) 0 dX4_findEndless_101 rfl rfl ?_
    refine X.getI (pc := 102) dX4_findEndless_102 fl_X4_44 rfl (fs_X4 hW hp0) ?_
    exact X.callV (pc := 105) (vs := [vI ((μ) p0 10)]) (st := [vI ((μ) p0 10), vR p0]) dX4_findEndless_105 rfl okM_X4_tiedTo rfl lk_X4_82 inst_X4_tiedTo sel_X4_tiedTo (fs_X4 hW hp0) rfl ⟨⟨by decide, by decide⟩, ⟨by decide, by decide⟩, Nat.le_of_ble_eq_true rfl⟩ (Nat.le_of_ble_eq_true rfl) h

theorem g_X4_findEndless_108 {sh : List (Nat × Nat)} {ν : Nat → Nat → Option Nat} {μ : Nat → Nat → Int} {f s : Nat} {Q : xQ} (hW : WF sh ν f s) {p0 : Nat} (hp0 : isKnot p0) {x3 : Int} {q0 : Nat} (hq0 : isKnot q0) {y1 : Int} {y2 : Int}
    (h : X mX4_findEndless 89 [(0, vR p0), (3, vI (w32 (x3 + 1)))] [] sh (ν) (up μ q0 10 (xor_ y1 y2)) 0 0 Q) :
    X mX4_findEndless 108 [(0, vR p0), (3, vI x3)] [vI y2, vI y1, vR q0] sh ν μ 0 0 Q := by
  refine X.ior (pc := 108) dX4_findEndless_108 ?_
  refine X.putI (pc := 109) dX4_findEndless_109 fl_X4_44 rfl (fun h9 => by cases h9) (fs_X4 hW hq0) (Or.inl rfl) ?_
  refine X.iinc (pc := 112) (i := 3) (ls' := [(3, vI (w32 (x3 + 1))), (0, vR p0)]) 1 dX4_findEndless_112 rfl (by decide) rfl ?_
  refine X.goto (pc := 115) (tgt := 89) dX4_findEndless_115 (by decide) ?_
  exact X.pick [1, 0] rfl h

theorem g_X5_lay_0 {sh : List (Nat × Nat)} {ν : Nat → Nat → Option Nat} {μ : Nat → Nat → Int} {f s : Nat} {Q : xQ} (hW : WF sh ν f s) {p1 : Nat} (hp1 : isRule p1) {x2 : Int} {x3 : Int}
    (h : (((((up μ 207 3 0) p1 5 ≤ x2 ∧ x2 ≤ (up μ 207 3 0) p1 6) ∧ (up μ 207 3 0) p1 7 ≤ x3 ∧ x3 ≤ (up μ 207 3 0) p1 8) → ((((up μ 207 3 0) p1 2) ≠ 0 → ((¬ ((up μ 207 3 0) p1 2 = 2 ∨ (up μ 207 3 0) p1 2 = 4) → X mX5_lay 37 [(0, vR 207), (1, vR p1)] [vI x2] sh (ν) (up μ 207 3 0) 0 0 Q) ∧ (((up μ 207 3 0) p1 2 = 2 ∨ (up μ 207 3 0) p1 2 = 4) → X mX5_lay 37 [(0, vR 207), (1, vR p1)] [vI x3] sh (ν) (up μ 207 3 0) 0 0 Q))) ∧ (((up μ 207 3 0) p1 2) = 0 → Q (some (vI 1)) sh (ν) (up μ 207 3 0)))) ∧ (¬ (((up μ 207 3 0) p1 5 ≤ x2 ∧ x2 ≤ (up μ 207 3 0) p1 6) ∧ (up μ 207 3 0) p1 7 ≤ x3 ∧ x3 ≤ (up μ 207 3 0) p1 8) → Q (some (vI 0)) sh (ν) (up μ 207 3 0)))) :
    X mX5_lay 0 [(0, vR 207), (1, vR p1), (2, vI x2), (3, vI x3)] [] sh ν μ 0 0 Q := by
  refine X.aload_n (pc := 0) (i := 0) 0 dX5_lay_0 rfl rfl ?_
  refine X.iconst (pc := 1) dX5_lay_1 ⟨by decide, by decide⟩ ?_
  refine X.putI (pc := 2) dX5_lay_2 fl_X5_21 rfl (fun h9 => by cases h9) (fs_X5 hW) (Or.inl rfl) ?_
  refine X.aload_n (pc := 5) (i := 1) 1 dX5_lay_5 rfl rfl ?_
  refine X.iload_n (pc := 6) (i := 2) 2 dX5_lay_6 rfl rfl ?_
  refine X.iload_n (pc := 7) (i := 3) 3 dX5_lay_7 rfl rfl ?_
  refine X.callV (pc := 8) (vs := [vI x2, vI x3]) (st := []) dX5_lay_8 rfl okM_X7_admits rfl lk_X5_25 inst_X7_admits sel_X7_admits (fs_X7 hW hp1) rfl ⟨⟨by decide, by decide⟩, ⟨by decide, by decide⟩, Nat.le_of_ble_eq_true rfl⟩ (Nat.le_of_ble_eq_true rfl) (c_X7_admits hW hp1 ?_)
  refine X.nrm (pc' := 11) (ls' := [(0, vR 207), (1, vR p1), (2, vI x2), (3, vI x3)]) (st' := [vI (bI (((up μ 207 3 0) p1 5 ≤ x2 ∧ x2 ≤ (up μ 207 3 0) p1 6) ∧ (up μ 207 3 0) p1 7 ≤ x3 ∧ x3 ≤ (up μ 207 3 0) p1 8))]) (k' := 0) (n' := 0) rfl rfl rfl rfl rfl ?_
  refine X.if_ne (pc := 11) 16 dX5_lay_11 (by decide) ⟨fun q9 => ?_, fun q9 => ?_⟩
  · have h := h.1 (bI_ne.mp q9)
    refine X.aload_n (pc := 16) (i := 1) 1 dX5_lay_16 rfl rfl ?_
    refine X.getI (pc := 17) dX5_lay_17 fl_X5_31 rfl (fs_X7 hW hp1) ?_
    refine X.if_ne (pc := 20) 25 dX5_lay_20 (by decide) ⟨fun q9 => ?_, fun q9 => ?_⟩
    · have h := h.1 q9
      refine X.aload_n (pc := 25) (i := 1) 1 dX5_lay_25 rfl rfl ?_
      refine X.callV (pc := 26) (vs := []) (st := []) dX5_lay_26 rfl okM_X7_isAlongY rfl lk_X5_34 inst_X7_isAlongY sel_X7_isAlongY (fs_X7 hW hp1) rfl ⟨⟨by decide, by decide⟩, ⟨by decide, by decide⟩, Nat.le_of_ble_eq_true rfl⟩ (Nat.le_of_ble_eq_true rfl) (c_X7_isAlongY hW hp1 ?_)
      refine X.nrm (pc' := 29) (ls' := [(0, vR 207), (1, vR p1), (2, vI x2), (3, vI x3)]) (st' := [vI (bI ((up μ 207 3 0) p1 2 = 2 ∨ (up μ 207 3 0) p1 2 = 4))]) (k' := 0) (n' := 0) rfl rfl rfl rfl rfl ?_
      refine X.if_eq (pc := 29) 36 dX5_lay_29 (by decide) ⟨fun q9 => ?_, fun q9 => ?_⟩
      · have h := h.1 (bI_eq.mp q9)
        refine X.iload_n (pc := 36) (i := 2) 2 dX5_lay_36 rfl rfl ?_
        exact X.pick [0, 1] rfl h
      · have h := h.2 (bI_ne.mp q9)
        refine X.iload_n (pc := 32) (i := 3) 3 dX5_lay_32 rfl rfl ?_
        refine X.goto (pc := 33) (tgt := 37) dX5_lay_33 (by decide) ?_
        exact X.pick [0, 1] rfl h
    · have h := h.2 q9
      refine X.iconst (pc := 23) dX5_lay_23 ⟨by decide, by decide⟩ ?_
      exact X.zret (pc := 24) dX5_lay_24 rfl (by decide) (Nat.le_of_ble_eq_true rfl) (Nat.le_of_ble_eq_true rfl) h
  · have h := h.2 (bI_eq.mp q9)
    refine X.iconst (pc := 14) dX5_lay_14 ⟨by decide, by decide⟩ ?_
    exact X.zret (pc := 15) dX5_lay_15 rfl (by decide) (Nat.le_of_ble_eq_true rfl) (Nat.le_of_ble_eq_true rfl) h

theorem g_X5_lay_37 {sh : List (Nat × Nat)} {ν : Nat → Nat → Option Nat} {μ : Nat → Nat → Int} {f s : Nat} {Q : xQ} (hW : WF sh ν f s) {p1 : Nat} (hp1 : isRule p1) {y0 : Int}
    (h : ((¬ ((μ) p1 2 = 3 ∨ (μ) p1 2 = 4) → X mX5_laySplit 0 [(0, vR 207), (1, vR (p1 + 1)), (2, vI y0)] [] sh (ν) (μ) 0 0 (fun v sh' ν' μ' => X mX5_lay 69 [(0, vR 207)] (v.toList ++ []) sh' ν' μ' 0 0 Q)) ∧ (((μ) p1 2 = 3 ∨ (μ) p1 2 = 4) → X mX5_layRepeat 0 [(0, vR 207), (1, vR (p1 + 1)), (2, vI y0)] [] sh (ν) (μ) 0 0 (fun v sh' ν' μ' => X mX5_lay 56 [(0, vR 207)] (v.toList ++ []) sh' ν' μ' 0 0 Q)))) :
    X mX5_lay 37 [(0, vR 207), (1, vR p1)] [vI y0] sh ν μ 0 0 Q := by
  refine X.istore (pc := 37) (i := 4) (ls' := [(4, vI y0), (0, vR 207), (1, vR p1)]) dX5_lay_37 (by decide) rfl ?_
  refine X.aload_n (pc := 39) (i := 1) 2 dX5_lay_39 rfl rfl ?_
  refine X.pick [1, 2, 0] rfl ?_
  refine X.callV (pc := 40) (vs := []) (st := []) dX5_lay_40 rfl okM_X7_isRepeat rfl lk_X5_38 inst_X7_isRepeat sel_X7_isRepeat (fs_X7 hW hp1) rfl ⟨⟨by decide, by decide⟩, ⟨by decide, by decide⟩, Nat.le_of_ble_eq_true rfl⟩ (Nat.le_of_ble_eq_true rfl) (c_X7_isRepeat hW hp1 ?_)
  refine X.nrm (pc' := 43) (ls' := [(0, vR 207), (1, vR p1), (4, vI y0)]) (st' := [vI (bI ((μ) p1 2 = 3 ∨ (μ) p1 2 = 4))]) (k' := 0) (n' := 0) rfl rfl rfl rfl rfl ?_
  refine X.if_eq (pc := 43) 59 dX5_lay_43 (by decide) ⟨fun q9 => ?_, fun q9 => ?_⟩
  · have h := h.1 (bI_eq.mp q9)
    refine X.aload_n (pc := 59) (i := 0) 0 dX5_lay_59 rfl rfl ?_
    refine X.aload_n (pc := 60) (i := 1) 1 dX5_lay_60 rfl rfl ?_
    refine X.getR (pc := 61) (b := (p1 + 1)) dX5_lay_61 fl_X5_41 rfl (fs_X7 hW hp1) (fp_X7_0 hW hp1) ?_
    refine X.iload (pc := 64) (i := 4) 2 dX5_lay_64 rfl ?_
    refine X.pick [0] rfl ?_
    exact X.callV (pc := 66) (vs := [vR (p1 + 1), vI y0]) (st := []) dX5_lay_66 rfl okM_X5_laySplit rfl lk_X5_49 inst_X5_laySplit sel_X5_laySplit (fs_X5 hW) rfl ⟨⟨by decide, by decide⟩, ⟨by decide, by decide⟩, Nat.le_of_ble_eq_true rfl⟩ (Nat.le_of_ble_eq_true rfl) h
  · have h := h.2 (bI_ne.mp q9)
    refine X.aload_n (pc := 46) (i := 0) 0 dX5_lay_46 rfl rfl ?_
    refine X.aload_n (pc := 47) (i := 1) 1 dX5_lay_47 rfl rfl ?_
    refine X.getR (pc := 48) (b := (p1 + 1)) dX5_lay_48 fl_X5_41 rfl (fs_X7 hW hp1) (fp_X7_0 hW hp1) ?_
    refine X.iload (pc := 51) (i := 4) 2 dX5_lay_51 rfl ?_
    refine X.pick [0] rfl ?_
    exact X.callV (pc := 53) (vs := [vR (p1 + 1), vI y0]) (st := []) dX5_lay_53 rfl okM_X5_layRepeat rfl lk_X5_45 inst_X5_layRepeat sel_X5_layRepeat (fs_X5 hW) rfl ⟨⟨by decide, by decide⟩, ⟨by decide, by decide⟩, Nat.le_of_ble_eq_true rfl⟩ (Nat.le_of_ble_eq_true rfl) h

theorem g_X5_lay_56 {sh : List (Nat × Nat)} {ν : Nat → Nat → Option Nat} {μ : Nat → Nat → Int} {f s : Nat} {Q : xQ} (hW : WF sh ν f s) {y0 : Int}
    (h : X mX5_lay 69 [(0, vR 207)] [vI y0] sh (ν) (μ) 0 0 Q) :
    X mX5_lay 56 [(0, vR 207)] [vI y0] sh ν μ 0 0 Q := by
  refine X.goto (pc := 56) (tgt := 69) dX5_lay_56 (by decide) ?_
  exact h

theorem g_X5_lay_69 {sh : List (Nat × Nat)} {ν : Nat → Nat → Option Nat} {μ : Nat → Nat → Int} {f s : Nat} {Q : xQ} (hW : WF sh ν f s) {y0 : Int}
    (h : ((y0 ≠ 0 → (y0 = 0 ∨ y0 = 1) ∧ Q (some (vI y0)) sh (ν) (μ)) ∧ (y0 = 0 → (y0 = 0 ∨ y0 = 1) ∧ Q (some (vI y0)) sh (ν) (up μ 207 3 0)))) :
    X mX5_lay 69 [(0, vR 207)] [vI y0] sh ν μ 0 0 Q := by
  refine X.istore (pc := 69) (i := 5) (ls' := [(5, vI y0), (0, vR 207)]) dX5_lay_69 (by decide) rfl ?_
  refine X.iload (pc := 71) (i := 5) 0 dX5_lay_71 rfl ?_
  refine X.if_ne (pc := 73) 81 dX5_lay_73 (by decide) ⟨fun q9 => ?_, fun q9 => ?_⟩
  · have h := h.1 q9
    refine X.iload (pc := 81) (i := 5) 0 dX5_lay_81 rfl ?_
    obtain ⟨c1, h⟩ := h
    exact X.zret (pc := 83) dX5_lay_83 rfl c1 (Nat.le_of_ble_eq_true rfl) (Nat.le_of_ble_eq_true rfl) h
  · have h := h.2 q9
    refine X.aload_n (pc := 76) (i := 0) 1 dX5_lay_76 rfl rfl ?_
    refine X.iconst (pc := 77) dX5_lay_77 ⟨by decide, by decide⟩ ?_
    refine X.putI (pc := 78) dX5_lay_78 fl_X5_21 rfl (fun h9 => by cases h9) (fs_X5 hW) (Or.inl rfl) ?_
    refine X.iload (pc := 81) (i := 5) 0 dX5_lay_81 rfl ?_
    obtain ⟨c2, h⟩ := h
    exact X.zret (pc := 83) dX5_lay_83 rfl c2 (Nat.le_of_ble_eq_true rfl) (Nat.le_of_ble_eq_true rfl) h

theorem g_X5_laySplit_0 {sh : List (Nat × Nat)} {ν : Nat → Nat → Option Nat} {μ : Nat → Nat → Int} {f s : Nat} {Q : xQ} (hW : WF sh ν f s) {p1 : Nat} (hp1 : isParts p1) {x2 : Int}
    (h : (((w32 (x2 - ((μ) p1 4))) < 0 → Q (some (vI 0)) sh (ν) (μ)) ∧ (0 ≤ (w32 (x2 - ((μ) p1 4))) → ((((μ) p1 5) ≠ 0 → X mX5_laySplit 24 [(0, vR 207), (1, vR p1), (3, vI (w32 (x2 - ((μ) p1 4))))] [] sh (ν) (μ) 0 0 Q) ∧ (((μ) p1 5) = 0 → (((w32 (x2 - ((μ) p1 4))) = 0 → X mX5_laySplit 24 [(0, vR 207), (1, vR p1), (3, vI (w32 (x2 - ((μ) p1 4))))] [] sh (ν) (μ) 0 0 Q) ∧ ((w32 (x2 - ((μ) p1 4))) ≠ 0 → Q (some (vI 0)) sh (ν) (μ)))))))) :
    X mX5_laySplit 0 [(0, vR 207), (1, vR p1), (2, vI x2)] [] sh ν μ 0 0 Q := by
  refine X.iload_n (pc := 0) (i := 2) 2 dX5_laySplit_0 rfl rfl ?_
  refine X.aload_n (pc := 1) (i := 1) 1 dX5_laySplit_1 rfl rfl ?_
  refine X.getI (pc := 2) dX5_laySplit_2 fl_X5_52 rfl (fs_X6 hW hp1) ?_
  refine X.isub (pc := 5) dX5_laySplit_5 ?_
  refine X.istore_n (pc := 6) (i := 3) (ls' := [(3, vI (w32 (x2 - ((μ) p1 4)))), (0, vR 207), (1, vR p1), (2, vI x2)]) dX5_laySplit_6 rfl (by decide) rfl ?_
  refine X.iload_n (pc := 7) (i := 3) 0 dX5_laySplit_7 rfl rfl ?_
  refine X.if_lt (pc := 8) 22 dX5_laySplit_8 (by decide) ⟨fun q9 => ?_, fun q9 => ?_⟩
  · have h := h.1 q9
    refine X.iconst (pc := 22) dX5_laySplit_22 ⟨by decide, by decide⟩ ?_
    exact X.zret (pc := 23) dX5_laySplit_23 rfl (by decide) (Nat.le_of_ble_eq_true rfl) (Nat.le_of_ble_eq_true rfl) h
  · have h := h.2 q9
    refine X.aload_n (pc := 11) (i := 1) 2 dX5_laySplit_11 rfl rfl ?_
    refine X.getI (pc := 12) dX5_laySplit_12 fl_X5_57 rfl (fs_X6 hW hp1) ?_
    refine X.if_ne (pc := 15) 24 dX5_laySplit_15 (by decide) ⟨fun q9 => ?_, fun q9 => ?_⟩
    · have h := h.1 q9
      exact X.pick [1, 2, 0] rfl h
    · have h := h.2 q9
      refine X.iload_n (pc := 18) (i := 3) 0 dX5_laySplit_18 rfl rfl ?_
      refine X.if_eq (pc := 19) 24 dX5_laySplit_19 (by decide) ⟨fun q9 => ?_, fun q9 => ?_⟩
      · have h := h.1 q9
        exact X.pick [1, 2, 0] rfl h
      · have h := h.2 q9
        refine X.iconst (pc := 22) dX5_laySplit_22 ⟨by decide, by decide⟩ ?_
        exact X.zret (pc := 23) dX5_laySplit_23 rfl (by decide) (Nat.le_of_ble_eq_true rfl) (Nat.le_of_ble_eq_true rfl) h

theorem g_X5_laySplit_24 {sh : List (Nat × Nat)} {ν : Nat → Nat → Option Nat} {μ : Nat → Nat → Int} {f s : Nat} {Q : xQ} (hW : WF sh ν f s) {p1 : Nat} (hp1 : isParts p1) {x3 : Int}
    (h : X mX5_laySplit 38 [(0, vR 207), (1, vR p1), (3, vI x3), (4, vI x3), (5, vI 0)] [] sh (ν) (up μ 207 3 ((μ) p1 3)) 0 0 Q) :
    X mX5_laySplit 24 [(0, vR 207), (1, vR p1), (3, vI x3)] [] sh ν μ 0 0 Q := by
  refine X.aload_n (pc := 24) (i := 0) 0 dX5_laySplit_24 rfl rfl ?_
  refine X.aload_n (pc := 25) (i := 1) 1 dX5_laySplit_25 rfl rfl ?_
  refine X.getI (pc := 26) dX5_laySplit_26 fl_X5_60 rfl (fs_X6 hW hp1) ?_
  refine X.putI (pc := 29) dX5_laySplit_29 fl_X5_21 rfl (fun h9 => by cases h9) (fs_X5 hW) (Or.inl rfl) ?_
  refine X.iload_n (pc := 32) (i := 3) 2 dX5_laySplit_32 rfl rfl ?_
  refine X.istore (pc := 33) (i := 4) (ls' := [(4, vI x3), (0, vR 207), (1, vR p1), (3, vI x3)]) dX5_laySplit_33 (by decide) rfl ?_
  refine X.iconst (pc := 35) dX5_laySplit_35 ⟨by decide, by decide⟩ ?_
  refine X.istore (pc := 36) (i := 5) (ls' := [(5, vI 0), (4, vI x3), (0, vR 207), (1, vR p1), (3, vI x3)]) dX5_laySplit_36 (by decide) rfl ?_
  exact X.pick [2, 3, 4, 1, 0] rfl h

theorem g_X5_laySplit_38 {sh : List (Nat × Nat)} {ν : Nat → Nat → Option Nat} {μ : Nat → Nat → Int} {f s : Nat} {Q : xQ} (hW : WF sh ν f s) {p1 : Nat} (hp1 : isParts p1) {x3 : Int} {x4 : Int} {x5 : Int}
    (h : ((((μ) 207 3) ≤ x5 → X mX5_laySplit 121 [(0, vR 207), (1, vR p1), (4, vI x4), (5, vI 0)] [] sh (ν) (μ) 0 0 Q) ∧ (x5 < ((μ) 207 3) → ((((μ) p1 5) ≤ 0 → X mX5_laySplit 72 [(0, vR 207), (1, vR p1), (3, vI x3), (4, vI x4), (5, vI x5)] [vI 0] sh (ν) (μ) 0 0 Q) ∧ (0 < ((μ) p1 5) → (0 ≤ x5 ∧ x5 < (6 : Nat)) ∧ (((μ) p1 5) ≠ 0) ∧ X mX5_laySplit 72 [(0, vR 207), (1, vR p1), (3, vI x3), (4, vI x4), (5, vI x5)] [vI (w32 (Int.tdiv (w32 (x3 * ((μ) (p1 + 3) (Int.toNat x5)))) ((μ) p1 5)))] sh (ν) (μ) 0 0 Q))))) :
    X mX5_laySplit 38 [(0, vR 207), (1, vR p1), (3, vI x3), (4, vI x4), (5, vI x5)] [] sh ν μ 0 0 Q := by
  refine X.iload (pc := 38) (i := 5) 4 dX5_laySplit_38 rfl ?_
  refine X.aload_n (pc := 40) (i := 0) 0 dX5_laySplit_40 rfl rfl ?_
  refine X.getI (pc := 41) dX5_laySplit_41 fl_X5_21 rfl (fs_X5 hW) ?_
  refine X.icmp_ge (pc := 44) 118 dX5_laySplit_44 (by decide) ⟨fun q9 => ?_, fun q9 => ?_⟩
  · have h := h.1 q9
    refine X.iconst (pc := 118) dX5_laySplit_118 ⟨by decide, by decide⟩ ?_
    refine X.istore (pc := 119) (i := 5) (ls' := [(5, vI 0), (0, vR 207), (1, vR p1), (3, vI x3), (4, vI x4)]) dX5_laySplit_119 (by decide) rfl ?_
    exact X.pick [1, 2, 4, 0] rfl h
  · have h := h.2 q9
    refine X.aload_n (pc := 47) (i := 1) 1 dX5_laySplit_47 rfl rfl ?_
    refine X.getI (pc := 48) dX5_laySplit_48 fl_X5_57 rfl (fs_X6 hW hp1) ?_
    refine X.if_le (pc := 51) 71 dX5_laySplit_51 (by decide) ⟨fun q9 => ?_, fun q9 => ?_⟩
    · have h := h.1 q9
      refine X.iconst (pc := 71) dX5_laySplit_71 ⟨by decide, by decide⟩ ?_
      exact h
    · have h := h.2 q9
      refine X.iload_n (pc := 54) (i := 3) 2 dX5_laySplit_54 rfl rfl ?_
      refine X.aload_n (pc := 55) (i := 1) 1 dX5_laySplit_55 rfl rfl ?_
      refine X.getR (pc := 56) (b := (p1 + 3)) dX5_laySplit_56 fl_X5_61 rfl (fs_X6 hW hp1) (fp_X6_2 hW hp1) ?_
      refine X.iload (pc := 59) (i := 5) 4 dX5_laySplit_59 rfl ?_
      obtain ⟨c1, h⟩ := h
      refine X.iaload (pc := 61) dX5_laySplit_61 (fa_X6_2 hW hp1) c1 ?_
      refine X.imul (pc := 62) dX5_laySplit_62 ?_
      refine X.aload_n (pc := 63) (i := 1) 1 dX5_laySplit_63 rfl rfl ?_
      refine X.getI (pc := 64) dX5_laySplit_64 fl_X5_57 rfl (fs_X6 hW hp1) ?_
      obtain ⟨c2, h⟩ := h
      refine X.idiv (pc := 67) dX5_laySplit_67 c2 ?_
      refine X.goto (pc := 68) (tgt := 72) dX5_laySplit_68 (by decide) ?_
      exact h

theorem g_X5_laySplit_72 {sh : List (Nat × Nat)} {ν : Nat → Nat → Option Nat} {μ : Nat → Nat → Int} {f s : Nat} {Q : xQ} (hW : WF sh ν f s) {p1 : Nat} (hp1 : isParts p1) {x3 : Int} {x4 : Int} {x5 : Int} {y0 : Int}
    (h : (0 ≤ x5 ∧ x5 < (6 : Nat)) ∧ (0 ≤ x5 ∧ x5 < (20 : Nat)) ∧ (0 ≤ x5 ∧ x5 < (6 : Nat)) ∧ (0 ≤ x5 ∧ x5 < (20 : Nat)) ∧ X mX5_laySplit 38 [(0, vR 207), (1, vR p1), (3, vI x3), (4, vI (w32 (x4 - y0))), (5, vI (w32 (x5 + 1)))] [] sh (ν) (up (up μ 208 (Int.toNat x5) ((μ) (p1 + 1) (Int.toNat x5))) 210 (Int.toNat x5) (w32 (((up μ 208 (Int.toNat x5) ((μ) (p1 + 1) (Int.toNat x5))) (p1 + 2) (Int.toNat x5)) + y0))) 0 0 Q) :
    X mX5_laySplit 72 [(0, vR 207), (1, vR p1), (3, vI x3), (4, vI x4), (5, vI x5)] [vI y0] sh ν μ 0 0 Q := by
  refine X.istore (pc := 72) (i := 6) (ls' := [(6, vI y0), (0, vR 207), (1, vR p1), (3, vI x3), (4, vI x4), (5, vI x5)]) dX5_laySplit_72 (by decide) rfl ?_
  refine X.aload_n (pc := 74) (i := 0) 1 dX5_laySplit_74 rfl rfl ?_
  refine X.getR (pc := 75) (b := 208) dX5_laySplit_75 fl_X5_9 rfl (fs_X5 hW) (fp_X5_0 hW) ?_
  refine X.iload (pc := 78) (i := 5) 5 dX5_laySplit_78 rfl ?_
  refine X.aload_n (pc := 80) (i := 1) 2 dX5_laySplit_80 rfl rfl ?_
  refine X.getR (pc := 81) (b := (p1 + 1)) dX5_laySplit_81 fl_X5_64 rfl (fs_X6 hW hp1) (fp_X6_0 hW hp1) ?_
  refine X.iload (pc := 84) (i := 5) 5 dX5_laySplit_84 rfl ?_
  obtain ⟨c1, h⟩ := h
  refine X.iaload (pc := 86) dX5_laySplit_86 (fa_X6_0 hW hp1) c1 ?_
  obtain ⟨c2, h⟩ := h
  refine X.iastore (pc := 87) dX5_laySplit_87 (fa_X5_0 hW) c2 ?_
  refine X.aload_n (pc := 88) (i := 0) 1 dX5_laySplit_88 rfl rfl ?_
  refine X.getR (pc := 89) (b := 210) dX5_laySplit_89 fl_X5_18 rfl (fs_X5 hW) (fp_X5_2 hW) ?_
  refine X.iload (pc := 92) (i := 5) 5 dX5_laySplit_92 rfl ?_
  refine X.aload_n (pc := 94) (i := 1) 2 dX5_laySplit_94 rfl rfl ?_
  refine X.getR (pc := 95) (b := (p1 + 2)) dX5_laySplit_95 fl_X5_65 rfl (fs_X6 hW hp1) (fp_X6_1 hW hp1) ?_
  refine X.iload (pc := 98) (i := 5) 5 dX5_laySplit_98 rfl ?_
  obtain ⟨c3, h⟩ := h
  refine X.iaload (pc := 100) dX5_laySplit_100 (fa_X6_1 hW hp1) c3 ?_
  refine X.iload (pc := 101) (i := 6) 0 dX5_laySplit_101 rfl ?_
  refine X.iadd (pc := 103) dX5_laySplit_103 ?_
  obtain ⟨c4, h⟩ := h
  refine X.iastore (pc := 104) dX5_laySplit_104 (fa_X5_2 hW) c4 ?_
  refine X.iload (pc := 105) (i := 4) 4 dX5_laySplit_105 rfl ?_
  refine X.iload (pc := 107) (i := 6) 0 dX5_laySplit_107 rfl ?_
  refine X.isub (pc := 109) dX5_laySplit_109 ?_
  refine X.istore (pc := 110) (i := 4) (ls' := [(4, vI (w32 (x4 - y0))), (6, vI y0), (0, vR 207), (1, vR p1), (3, vI x3), (5, vI x5)]) dX5_laySplit_110 (by decide) rfl ?_
  refine X.iinc (pc := 112) (i := 5) (ls' := [(5, vI (w32 (x5 + 1))), (4, vI (w32 (x4 - y0))), (6, vI y0), (0, vR 207), (1, vR p1), (3, vI x3)]) 5 dX5_laySplit_112 rfl (by decide) rfl ?_
  refine X.goto (pc := 115) (tgt := 38) dX5_laySplit_115 (by decide) ?_
  exact X.pick [3, 4, 5, 1, 0] rfl h

theorem g_X5_laySplit_121 {sh : List (Nat × Nat)} {ν : Nat → Nat → Option Nat} {μ : Nat → Nat → Int} {f s : Nat} {Q : xQ} (hW : WF sh ν f s) {p1 : Nat} (hp1 : isParts p1) {x4 : Int} {x5 : Int}
    (h : ((((μ) 207 3) ≤ x5 → X mX5_laySplit 165 [(0, vR 207)] [] sh (ν) (μ) 0 0 Q) ∧ (x5 < ((μ) 207 3) → ((x4 ≤ 0 → X mX5_laySplit 165 [(0, vR 207)] [] sh (ν) (μ) 0 0 Q) ∧ (0 < x4 → (0 ≤ x5 ∧ x5 < (6 : Nat)) ∧ ((((μ) (p1 + 3) (Int.toNat x5)) ≤ 0 → X mX5_laySplit 159 [(0, vR 207), (1, vR p1), (4, vI x4), (5, vI x5)] [] sh (ν) (μ) 0 0 Q) ∧ (0 < ((μ) (p1 + 3) (Int.toNat x5)) → (0 ≤ x5 ∧ x5 < (20 : Nat)) ∧ (0 ≤ x5 ∧ x5 < (20 : Nat)) ∧ X mX5_laySplit 159 [(0, vR 207), (1, vR p1), (4, vI (w32 (x4 + (-1)))), (5, vI x5)] [] sh (ν) (up μ 210 (Int.toNat x5) (w32 (((μ) 210 (Int.toNat x5)) + 1))) 0 0 Q))))))) :
    X mX5_laySplit 121 [(0, vR 207), (1, vR p1), (4, vI x4), (5, vI x5)] [] sh ν μ 0 0 Q := by
  refine X.iload (pc := 121) (i := 5) 3 dX5_laySplit_121 rfl ?_
  refine X.aload_n (pc := 123) (i := 0) 0 dX5_laySplit_123 rfl rfl ?_
  refine X.getI (pc := 124) dX5_laySplit_124 fl_X5_21 rfl (fs_X5 hW) ?_
  refine X.icmp_ge (pc := 127) 165 dX5_laySplit_127 (by decide) ⟨fun q9 => ?_, fun q9 => ?_⟩
  · have h := h.1 q9
    exact X.pick [0] rfl h
  · have h := h.2 q9
    refine X.iload (pc := 130) (i := 4) 2 dX5_laySplit_130 rfl ?_
    refine X.if_le (pc := 132) 165 dX5_laySplit_132 (by decide) ⟨fun q9 => ?_, fun q9 => ?_⟩
    · have h := h.1 q9
      exact X.pick [0] rfl h
    · have h := h.2 q9
      refine X.aload_n (pc := 135) (i := 1) 1 dX5_laySplit_135 rfl rfl ?_
      refine X.getR (pc := 136) (b := (p1 + 3)) dX5_laySplit_136 fl_X5_61 rfl (fs_X6 hW hp1) (fp_X6_2 hW hp1) ?_
      refine X.iload (pc := 139) (i := 5) 3 dX5_laySplit_139 rfl ?_
      obtain ⟨c1, h⟩ := h
      refine X.iaload (pc := 141) dX5_laySplit_141 (fa_X6_2 hW hp1) c1 ?_
      refine X.if_le (pc := 142) 159 dX5_laySplit_142 (by decide) ⟨fun q9 => ?_, fun q9 => ?_⟩
      · have h := h.1 q9
        exact h
      · have h := h.2 q9
        refine X.aload_n (pc := 145) (i := 0) 0 dX5_laySplit_145 rfl rfl ?_
        refine X.getR (pc := 146) (b := 210) dX5_laySplit_146 fl_X5_18 rfl (fs_X5 hW) (fp_X5_2 hW) ?_
        refine X.iload (pc := 149) (i := 5) 3 dX5_laySplit_149 rfl ?_
        refine X.dup2 (pc := 151) dX5_laySplit_151 rfl rfl ?_
        obtain ⟨c2, h⟩ := h
        refine X.iaload (pc := 152) dX5_laySplit_152 (fa_X5_2 hW) c2 ?_
        refine X.iconst (pc := 153) dX5_laySplit_153 ⟨by decide, by decide⟩ ?_
        refine X.iadd (pc := 154) dX5_laySplit_154 ?_
        obtain ⟨c3, h⟩ := h
        refine X.iastore (pc := 155) dX5_laySplit_155 (fa_X5_2 hW) c3 ?_
        refine X.iinc (pc := 156) (i := 4) (ls' := [(4, vI (w32 (x4 + (-1)))), (0, vR 207), (1, vR p1), (5, vI x5)]) 2 dX5_laySplit_156 rfl (by decide) rfl ?_
        exact X.pick [1, 2, 0, 3] rfl h

theorem g_X5_laySplit_159 {sh : List (Nat × Nat)} {ν : Nat → Nat → Option Nat} {μ : Nat → Nat → Int} {f s : Nat} {Q : xQ} (hW : WF sh ν f s) {p1 : Nat} (hp1 : isParts p1) {x4 : Int} {x5 : Int}
    (h : X mX5_laySplit 121 [(0, vR 207), (1, vR p1), (4, vI x4), (5, vI (w32 (x5 + 1)))] [] sh (ν) (μ) 0 0 Q) :
    X mX5_laySplit 159 [(0, vR 207), (1, vR p1), (4, vI x4), (5, vI x5)] [] sh ν μ 0 0 Q := by
  refine X.iinc (pc := 159) (i := 5) (ls' := [(5, vI (w32 (x5 + 1))), (0, vR 207), (1, vR p1), (4, vI x4)]) 3 dX5_laySplit_159 rfl (by decide) rfl ?_
  refine X.goto (pc := 162) (tgt := 121) dX5_laySplit_162 (by decide) ?_
  exact X.pick [1, 2, 3, 0] rfl h

theorem g_X5_laySplit_165 {sh : List (Nat × Nat)} {ν : Nat → Nat → Option Nat} {μ : Nat → Nat → Int} {f s : Nat} {Q : xQ} (hW : WF sh ν f s) 
    (h : X mX5_laidOneAfterAnother 0 [(0, vR 207)] [] sh (ν) (μ) 0 0 (fun v sh' ν' μ' => X mX5_laySplit 169 [] (v.toList ++ []) sh' ν' μ' 0 0 Q)) :
    X mX5_laySplit 165 [(0, vR 207)] [] sh ν μ 0 0 Q := by
  refine X.aload_n (pc := 165) (i := 0) 0 dX5_laySplit_165 rfl rfl ?_
  refine X.pick [] rfl ?_
  exact X.callV (pc := 166) (vs := []) (st := []) dX5_laySplit_166 rfl okM_X5_laidOneAfterAnother rfl lk_X5_68 inst_X5_laidOneAfterAnother sel_X5_laidOneAfterAnother (fs_X5 hW) rfl ⟨⟨by decide, by decide⟩, ⟨by decide, by decide⟩, Nat.le_of_ble_eq_true rfl⟩ (Nat.le_of_ble_eq_true rfl) h

theorem g_X5_laySplit_169 {sh : List (Nat × Nat)} {ν : Nat → Nat → Option Nat} {μ : Nat → Nat → Int} {f s : Nat} {Q : xQ} (hW : WF sh ν f s) {y0 : Int}
    (h : (y0 = 0 ∨ y0 = 1) ∧ Q (some (vI y0)) sh (ν) (μ)) :
    X mX5_laySplit 169 [] [vI y0] sh ν μ 0 0 Q := by
  obtain ⟨c1, h⟩ := h
  exact X.zret (pc := 169) dX5_laySplit_169 rfl c1 (Nat.le_of_ble_eq_true rfl) (Nat.le_of_ble_eq_true rfl) h

theorem g_X5_layRepeat_0 {sh : List (Nat × Nat)} {ν : Nat → Nat → Option Nat} {μ : Nat → Nat → Int} {f s : Nat} {Q : xQ} (hW : WF sh ν f s) {p1 : Nat} (hp1 : isParts p1) {x2 : Int}
    (h : ((((μ) (p1 + 2) (Int.toNat 0)) ≤ 0 → X mX5_layRepeat 18 [(0, vR 207), (1, vR p1), (2, vI x2)] [vI 0] sh (ν) (μ) 0 0 Q) ∧ (0 < ((μ) (p1 + 2) (Int.toNat 0)) → (((μ) (p1 + 2) (Int.toNat 0)) ≠ 0) ∧ X mX5_layRepeat 18 [(0, vR 207), (1, vR p1), (2, vI x2)] [vI (w32 (Int.tdiv x2 ((μ) (p1 + 2) (Int.toNat 0))))] sh (ν) (μ) 0 0 Q))) :
    X mX5_layRepeat 0 [(0, vR 207), (1, vR p1), (2, vI x2)] [] sh ν μ 0 0 Q := by
  refine X.aload_n (pc := 0) (i := 1) 1 dX5_layRepeat_0 rfl rfl ?_
  refine X.getR (pc := 1) (b := (p1 + 2)) dX5_layRepeat_1 fl_X5_65 rfl (fs_X6 hW hp1) (fp_X6_1 hW hp1) ?_
  refine X.iconst (pc := 4) dX5_layRepeat_4 ⟨by decide, by decide⟩ ?_
  refine X.iaload (pc := 5) dX5_layRepeat_5 (fa_X6_1 hW hp1) ⟨by decide, by decide⟩ ?_
  refine X.istore_n (pc := 6) (i := 3) (ls' := [(3, vI ((μ) (p1 + 2) (Int.toNat 0))), (0, vR 207), (1, vR p1), (2, vI x2)]) dX5_layRepeat_6 rfl (by decide) rfl ?_
  refine X.iload_n (pc := 7) (i := 3) 0 dX5_layRepeat_7 rfl rfl ?_
  refine X.if_le (pc := 8) 17 dX5_layRepeat_8 (by decide) ⟨fun q9 => ?_, fun q9 => ?_⟩
  · have h := h.1 q9
    refine X.iconst (pc := 17) dX5_layRepeat_17 ⟨by decide, by decide⟩ ?_
    exact X.pick [1, 2, 3] rfl h
  · have h := h.2 q9
    refine X.iload_n (pc := 11) (i := 2) 3 dX5_layRepeat_11 rfl rfl ?_
    refine X.iload_n (pc := 12) (i := 3) 0 dX5_layRepeat_12 rfl rfl ?_
    obtain ⟨c1, h⟩ := h
    refine X.idiv (pc := 13) dX5_layRepeat_13 c1 ?_
    refine X.goto (pc := 14) (tgt := 18) dX5_layRepeat_14 (by decide) ?_
    exact X.pick [1, 2, 3] rfl h

theorem g_X5_layRepeat_18 {sh : List (Nat × Nat)} {ν : Nat → Nat → Option Nat} {μ : Nat → Nat → Int} {f s : Nat} {Q : xQ} (hW : WF sh ν f s) {p1 : Nat} (hp1 : isParts p1) {x2 : Int} {y0 : Int}
    (h : ((y0 < 1 → Q (some (vI 0)) sh (ν) (μ)) ∧ (1 ≤ y0 → ((y0 ≤ 20 → X mX5_layRepeat 44 [(0, vR 207), (1, vR p1), (2, vI x2), (4, vI y0), (5, vI 0)] [] sh (ν) (up μ 207 3 y0) 0 0 Q) ∧ (20 < y0 → Q (some (vI 0)) sh (ν) (μ)))))) :
    X mX5_layRepeat 18 [(0, vR 207), (1, vR p1), (2, vI x2)] [vI y0] sh ν μ 0 0 Q := by
  refine X.istore (pc := 18) (i := 4) (ls' := [(4, vI y0), (0, vR 207), (1, vR p1), (2, vI x2)]) dX5_layRepeat_18 (by decide) rfl ?_
  refine X.iload (pc := 20) (i := 4) 0 dX5_layRepeat_20 rfl ?_
  refine X.iconst (pc := 22) dX5_layRepeat_22 ⟨by decide, by decide⟩ ?_
  refine X.icmp_lt (pc := 23) 33 dX5_layRepeat_23 (by decide) ⟨fun q9 => ?_, fun q9 => ?_⟩
  · have h := h.1 q9
    refine X.iconst (pc := 33) dX5_layRepeat_33 ⟨by decide, by decide⟩ ?_
    exact X.zret (pc := 34) dX5_layRepeat_34 rfl (by decide) (Nat.le_of_ble_eq_true rfl) (Nat.le_of_ble_eq_true rfl) h
  · have h := h.2 q9
    refine X.iload (pc := 26) (i := 4) 0 dX5_layRepeat_26 rfl ?_
    refine X.bipush (pc := 28) (y := 20) dX5_layRepeat_28 rfl ⟨by decide, by decide⟩ ?_
    refine X.icmp_le (pc := 30) 35 dX5_layRepeat_30 (by decide) ⟨fun q9 => ?_, fun q9 => ?_⟩
    · have h := h.1 q9
      refine X.aload_n (pc := 35) (i := 0) 1 dX5_layRepeat_35 rfl rfl ?_
      refine X.iload (pc := 36) (i := 4) 0 dX5_layRepeat_36 rfl ?_
      refine X.putI (pc := 38) dX5_layRepeat_38 fl_X5_21 rfl (fun h9 => by cases h9) (fs_X5 hW) (Or.inl rfl) ?_
      refine X.iconst (pc := 41) dX5_layRepeat_41 ⟨by decide, by decide⟩ ?_
      refine X.istore (pc := 42) (i := 5) (ls' := [(5, vI 0), (4, vI y0), (0, vR 207), (1, vR p1), (2, vI x2)]) dX5_layRepeat_42 (by decide) rfl ?_
      exact X.pick [2, 3, 4, 1, 0] rfl h
    · have h := h.2 q9
      refine X.iconst (pc := 33) dX5_layRepeat_33 ⟨by decide, by decide⟩ ?_
      exact X.zret (pc := 34) dX5_layRepeat_34 rfl (by decide) (Nat.le_of_ble_eq_true rfl) (Nat.le_of_ble_eq_true rfl) h

theorem g_X5_layRepeat_44 {sh : List (Nat × Nat)} {ν : Nat → Nat → Option Nat} {μ : Nat → Nat → Int} {f s : Nat} {Q : xQ} (hW : WF sh ν f s) {p1 : Nat} (hp1 : isParts p1) {x2 : Int} {x4 : Int} {x5 : Int}
    (h : ((((μ) 207 3) ≤ x5 → X mX5_laidOneAfterAnother 0 [(0, vR 207)] [] sh (ν) (μ) 0 0 (fun v sh' ν' μ' => X mX5_layRepeat 102 [] (v.toList ++ []) sh' ν' μ' 0 0 Q)) ∧ (x5 < ((μ) 207 3) → (0 ≤ x5 ∧ x5 < (20 : Nat)) ∧ (x4 ≠ 0) ∧ (x4 ≠ 0) ∧ (((w32 (Int.tmod x2 x4)) ≤ x5 → X mX5_layRepeat 90 [(0, vR 207), (1, vR p1), (2, vI x2), (4, vI x4), (5, vI x5)] [vI 0, vI (w32 (Int.tdiv x2 x4)), vI x5, vR 210] sh (ν) (up μ 208 (Int.toNat x5) ((μ) (p1 + 1) (Int.toNat 0))) 0 0 Q) ∧ (x5 < (w32 (Int.tmod x2 x4)) → X mX5_layRepeat 90 [(0, vR 207), (1, vR p1), (2, vI x2), (4, vI x4), (5, vI x5)] [vI 1, vI (w32 (Int.tdiv x2 x4)), vI x5, vR 210] sh (ν) (up μ 208 (Int.toNat x5) ((μ) (p1 + 1) (Int.toNat 0))) 0 0 Q))))) :
    X mX5_layRepeat 44 [(0, vR 207), (1, vR p1), (2, vI x2), (4, vI x4), (5, vI x5)] [] sh ν μ 0 0 Q := by
  refine X.iload (pc := 44) (i := 5) 4 dX5_layRepeat_44 rfl ?_
  refine X.aload_n (pc := 46) (i := 0) 0 dX5_layRepeat_46 rfl rfl ?_
  refine X.getI (pc := 47) dX5_layRepeat_47 fl_X5_21 rfl (fs_X5 hW) ?_
  refine X.icmp_ge (pc := 50) 98 dX5_layRepeat_50 (by decide) ⟨fun q9 => ?_, fun q9 => ?_⟩
  · have h := h.1 q9
    refine X.aload_n (pc := 98) (i := 0) 0 dX5_layRepeat_98 rfl rfl ?_
    refine X.pick [] rfl ?_
    exact X.callV (pc := 99) (vs := []) (st := []) dX5_layRepeat_99 rfl okM_X5_laidOneAfterAnother rfl lk_X5_68 inst_X5_laidOneAfterAnother sel_X5_laidOneAfterAnother (fs_X5 hW) rfl ⟨⟨by decide, by decide⟩, ⟨by decide, by decide⟩, Nat.le_of_ble_eq_true rfl⟩ (Nat.le_of_ble_eq_true rfl) h
  · have h := h.2 q9
    refine X.aload_n (pc := 53) (i := 0) 0 dX5_layRepeat_53 rfl rfl ?_
    refine X.getR (pc := 54) (b := 208) dX5_layRepeat_54 fl_X5_9 rfl (fs_X5 hW) (fp_X5_0 hW) ?_
    refine X.iload (pc := 57) (i := 5) 4 dX5_layRepeat_57 rfl ?_
    refine X.aload_n (pc := 59) (i := 1) 1 dX5_layRepeat_59 rfl rfl ?_
    refine X.getR (pc := 60) (b := (p1 + 1)) dX5_layRepeat_60 fl_X5_64 rfl (fs_X6 hW hp1) (fp_X6_0 hW hp1) ?_
    refine X.iconst (pc := 63) dX5_layRepeat_63 ⟨by decide, by decide⟩ ?_
    refine X.iaload (pc := 64) dX5_layRepeat_64 (fa_X6_0 hW hp1) ⟨by decide, by decide⟩ ?_
    obtain ⟨c1, h⟩ := h
    refine X.iastore (pc := 65) dX5_layRepeat_65 (fa_X5_0 hW) c1 ?_
    refine X.aload_n (pc := 66) (i := 0) 0 dX5_layRepeat_66 rfl rfl ?_
    refine X.getR (pc := 67) (b := 210) dX5_layRepeat_67 fl_X5_18 rfl (fs_X5 hW) (fp_X5_2 hW) ?_
    refine X.iload (pc := 70) (i := 5) 4 dX5_layRepeat_70 rfl ?_
    refine X.iload_n (pc := 72) (i := 2) 2 dX5_layRepeat_72 rfl rfl ?_
    refine X.iload (pc := 73) (i := 4) 3 dX5_layRepeat_73 rfl ?_
    obtain ⟨c2, h⟩ := h
    refine X.idiv (pc := 75) dX5_layRepeat_75 c2 ?_
    refine X.iload (pc := 76) (i := 5) 4 dX5_layRepeat_76 rfl ?_
    refine X.iload_n (pc := 78) (i := 2) 2 dX5_layRepeat_78 rfl rfl ?_
    refine X.iload (pc := 79) (i := 4) 3 dX5_layRepeat_79 rfl ?_
    obtain ⟨c3, h⟩ := h
    refine X.irem (pc := 81) dX5_layRepeat_81 c3 ?_
    refine X.icmp_ge (pc := 82) 89 dX5_layRepeat_82 (by decide) ⟨fun q9 => ?_, fun q9 => ?_⟩
    · have h := h.1 q9
      refine X.iconst (pc := 89) dX5_layRepeat_89 ⟨by decide, by decide⟩ ?_
      exact h
    · have h := h.2 q9
      refine X.iconst (pc := 85) dX5_layRepeat_85 ⟨by decide, by decide⟩ ?_
      refine X.goto (pc := 86) (tgt := 90) dX5_layRepeat_86 (by decide) ?_
      exact h

theorem g_X5_layRepeat_90 {sh : List (Nat × Nat)} {ν : Nat → Nat → Option Nat} {μ : Nat → Nat → Int} {f s : Nat} {Q : xQ} (hW : WF sh ν f s) {p1 : Nat} (hp1 : isParts p1) {x2 : Int} {x4 : Int} {x5 : Int} {q0 nq0 : Nat} (hq0 : sh[q0]? = some (0, nq0)) {y1 : Int} {y2 : Int} {y3 : Int}
    (h : (0 ≤ y1 ∧ y1 < (nq0 : Nat)) ∧ X mX5_layRepeat 44 [(0, vR 207), (1, vR p1), (2, vI x2), (4, vI x4), (5, vI (w32 (x5 + 1)))] [] sh (ν) (up μ q0 (Int.toNat y1) (w32 (y2 + y3))) 0 0 Q) :
    X mX5_layRepeat 90 [(0, vR 207), (1, vR p1), (2, vI x2), (4, vI x4), (5, vI x5)] [vI y3, vI y2, vI y1, vR q0] sh ν μ 0 0 Q := by
  refine X.iadd (pc := 90) dX5_layRepeat_90 ?_
  obtain ⟨c1, h⟩ := h
  refine X.iastore (pc := 91) dX5_layRepeat_91 hq0 c1 ?_
  refine X.iinc (pc := 92) (i := 5) (ls' := [(5, vI (w32 (x5 + 1))), (0, vR 207), (1, vR p1), (2, vI x2), (4, vI x4)]) 4 dX5_layRepeat_92 rfl (by decide) rfl ?_
  refine X.goto (pc := 95) (tgt := 44) dX5_layRepeat_95 (by decide) ?_
  exact X.pick [1, 2, 3, 4, 0] rfl h

theorem g_X5_layRepeat_102 {sh : List (Nat × Nat)} {ν : Nat → Nat → Option Nat} {μ : Nat → Nat → Int} {f s : Nat} {Q : xQ} (hW : WF sh ν f s) {y0 : Int}
    (h : (y0 = 0 ∨ y0 = 1) ∧ Q (some (vI y0)) sh (ν) (μ)) :
    X mX5_layRepeat 102 [] [vI y0] sh ν μ 0 0 Q := by
  obtain ⟨c1, h⟩ := h
  exact X.zret (pc := 102) dX5_layRepeat_102 rfl c1 (Nat.le_of_ble_eq_true rfl) (Nat.le_of_ble_eq_true rfl) h

theorem g_X6_copy_0 {sh : List (Nat × Nat)} {ν : Nat → Nat → Option Nat} {μ : Nat → Nat → Int} {f s : Nat} {Q : xQ} (hW : WF sh ν f s) {p0 : Nat} (hp0 : isParts p0) {p1 : Nat} (hp1 : isParts p1)
    (h : X mX6_copy 6 [(0, vR p0), (1, vR p1), (2, vI 0)] [] sh (ν) (up (up (up μ p0 3 0) p0 4 0) p0 5 0) 0 0 Q) :
    X mX6_copy 0 [(0, vR p0), (1, vR p1)] [] sh ν μ 0 0 Q := by
  refine X.aload_n (pc := 0) (i := 0) 0 dX6_copy_0 rfl rfl ?_
  refine X.callV (pc := 1) (vs := []) (st := []) dX6_copy_1 rfl okM_X6_empty rfl lk_X6_31 inst_X6_empty sel_X6_empty (fs_X6 hW hp0) rfl ⟨⟨by decide, by decide⟩, ⟨by decide, by decide⟩, Nat.le_of_ble_eq_true rfl⟩ (Nat.le_of_ble_eq_true rfl) ?_
  refine X.nrm (pc' := 0) (ls' := [(0, vR p0)]) (st' := []) (k' := 0) (n' := 0) rfl rfl rfl rfl rfl ?_
  refine X.aload_n (pc := 0) (i := 0) 0 dX6_empty_0 rfl rfl ?_
  refine X.iconst (pc := 1) dX6_empty_1 ⟨by decide, by decide⟩ ?_
  refine X.putI (pc := 2) dX6_empty_2 fl_X6_21 rfl (fun h9 => by cases h9) (fs_X6 hW hp0) (Or.inl rfl) ?_
  refine X.aload_n (pc := 5) (i := 0) 0 dX6_empty_5 rfl rfl ?_
  refine X.iconst (pc := 6) dX6_empty_6 ⟨by decide, by decide⟩ ?_
  refine X.putI (pc := 7) dX6_empty_7 fl_X6_25 rfl (fun h9 => by cases h9) (fs_X6 hW hp0) (Or.inl rfl) ?_
  refine X.aload_n (pc := 10) (i := 0) 0 dX6_empty_10 rfl rfl ?_
  refine X.iconst (pc := 11) dX6_empty_11 ⟨by decide, by decide⟩ ?_
  refine X.putI (pc := 12) dX6_empty_12 fl_X6_28 rfl (fun h9 => by cases h9) (fs_X6 hW hp0) (Or.inl rfl) ?_
  refine X.vret (pc := 15) dX6_empty_15 rfl (Nat.le_of_ble_eq_true rfl) (Nat.le_of_ble_eq_true rfl) ?_
  refine X.nrm (pc' := 4) (ls' := [(0, vR p0), (1, vR p1)]) (st' := []) (k' := 0) (n' := 0) rfl rfl rfl rfl rfl ?_
  refine X.iconst (pc := 4) dX6_copy_4 ⟨by decide, by decide⟩ ?_
  refine X.istore_n (pc := 5) (i := 2) (ls' := [(2, vI 0), (0, vR p0), (1, vR p1)]) dX6_copy_5 rfl (by decide) rfl ?_
  exact X.pick [1, 2, 0] rfl h

theorem g_X6_copy_6 {sh : List (Nat × Nat)} {ν : Nat → Nat → Option Nat} {μ : Nat → Nat → Int} {f s : Nat} {Q : xQ} (hW : WF sh ν f s) {p0 : Nat} (hp0 : isParts p0) {p1 : Nat} (hp1 : isParts p1) {x2 : Int}
    (h : ((((μ) p1 3) ≤ x2 → Q none sh (ν) (μ)) ∧ (x2 < ((μ) p1 3) → ((6 ≤ x2 → Q none sh (ν) (μ)) ∧ (x2 < 6 → (0 ≤ x2 ∧ x2 < (6 : Nat)) ∧ (0 ≤ x2 ∧ x2 < (6 : Nat)) ∧ (0 ≤ x2 ∧ x2 < (6 : Nat)) ∧ X mX6_add 0 [(0, vR p0), (1, vI ((μ) (p1 + 1) (Int.toNat x2))), (2, vI ((μ) (p1 + 2) (Int.toNat x2))), (3, vI ((μ) (p1 + 3) (Int.toNat x2)))] [] sh (ν) (μ) 0 0 (fun v sh' ν' μ' => X mX6_copy 42 [(0, vR p0), (1, vR p1), (2, vI x2)] (v.toList ++ []) sh' ν' μ' 0 0 Q)))))) :
    X mX6_copy 6 [(0, vR p0), (1, vR p1), (2, vI x2)] [] sh ν μ 0 0 Q := by
  refine X.iload_n (pc := 6) (i := 2) 2 dX6_copy_6 rfl rfl ?_
  refine X.aload_n (pc := 7) (i := 1) 1 dX6_copy_7 rfl rfl ?_
  refine X.getI (pc := 8) dX6_copy_8 fl_X6_21 rfl (fs_X6 hW hp1) ?_
  refine X.icmp_ge (pc := 11) 48 dX6_copy_11 (by decide) ⟨fun q9 => ?_, fun q9 => ?_⟩
  · have h := h.1 q9
    exact X.vret (pc := 48) dX6_copy_48 rfl (Nat.le_of_ble_eq_true rfl) (Nat.le_of_ble_eq_true rfl) h
  · have h := h.2 q9
    refine X.iload_n (pc := 14) (i := 2) 2 dX6_copy_14 rfl rfl ?_
    refine X.bipush (pc := 15) (y := 6) dX6_copy_15 rfl ⟨by decide, by decide⟩ ?_
    refine X.icmp_ge (pc := 17) 48 dX6_copy_17 (by decide) ⟨fun q9 => ?_, fun q9 => ?_⟩
    · have h := h.1 q9
      exact X.vret (pc := 48) dX6_copy_48 rfl (Nat.le_of_ble_eq_true rfl) (Nat.le_of_ble_eq_true rfl) h
    · have h := h.2 q9
      refine X.aload_n (pc := 20) (i := 0) 0 dX6_copy_20 rfl rfl ?_
      refine X.aload_n (pc := 21) (i := 1) 1 dX6_copy_21 rfl rfl ?_
      refine X.getR (pc := 22) (b := (p1 + 1)) dX6_copy_22 fl_X6_9 rfl (fs_X6 hW hp1) (fp_X6_0 hW hp1) ?_
      refine X.iload_n (pc := 25) (i := 2) 2 dX6_copy_25 rfl rfl ?_
      obtain ⟨c1, h⟩ := h
      refine X.iaload (pc := 26) dX6_copy_26 (fa_X6_0 hW hp1) c1 ?_
      refine X.aload_n (pc := 27) (i := 1) 1 dX6_copy_27 rfl rfl ?_
      refine X.getR (pc := 28) (b := (p1 + 2)) dX6_copy_28 fl_X6_15 rfl (fs_X6 hW hp1) (fp_X6_1 hW hp1) ?_
      refine X.iload_n (pc := 31) (i := 2) 2 dX6_copy_31 rfl rfl ?_
      obtain ⟨c2, h⟩ := h
      refine X.iaload (pc := 32) dX6_copy_32 (fa_X6_1 hW hp1) c2 ?_
      refine X.aload_n (pc := 33) (i := 1) 1 dX6_copy_33 rfl rfl ?_
      refine X.getR (pc := 34) (b := (p1 + 3)) dX6_copy_34 fl_X6_18 rfl (fs_X6 hW hp1) (fp_X6_2 hW hp1) ?_
      refine X.iload_n (pc := 37) (i := 2) 2 dX6_copy_37 rfl rfl ?_
      obtain ⟨c3, h⟩ := h
      refine X.iaload (pc := 38) dX6_copy_38 (fa_X6_2 hW hp1) c3 ?_
      exact X.callV (pc := 39) (vs := [vI ((μ) (p1 + 1) (Int.toNat x2)), vI ((μ) (p1 + 2) (Int.toNat x2)), vI ((μ) (p1 + 3) (Int.toNat x2))]) (st := []) dX6_copy_39 rfl okM_X6_add rfl lk_X6_34 inst_X6_add sel_X6_add (fs_X6 hW hp0) rfl ⟨⟨by decide, by decide⟩, ⟨by decide, by decide⟩, Nat.le_of_ble_eq_true rfl⟩ (Nat.le_of_ble_eq_true rfl) h

theorem g_X6_copy_42 {sh : List (Nat × Nat)} {ν : Nat → Nat → Option Nat} {μ : Nat → Nat → Int} {f s : Nat} {Q : xQ} (hW : WF sh ν f s) {p0 : Nat} (hp0 : isParts p0) {p1 : Nat} (hp1 : isParts p1) {x2 : Int}
    (h : X mX6_copy 6 [(0, vR p0), (1, vR p1), (2, vI (w32 (x2 + 1)))] [] sh (ν) (μ) 0 0 Q) :
    X mX6_copy 42 [(0, vR p0), (1, vR p1), (2, vI x2)] [] sh ν μ 0 0 Q := by
  refine X.iinc (pc := 42) (i := 2) (ls' := [(2, vI (w32 (x2 + 1))), (0, vR p0), (1, vR p1)]) 2 dX6_copy_42 rfl (by decide) rfl ?_
  refine X.goto (pc := 45) (tgt := 6) dX6_copy_45 (by decide) ?_
  exact X.pick [1, 2, 0] rfl h

theorem g_X8_begin_0 {sh : List (Nat × Nat)} {ν : Nat → Nat → Option Nat} {μ : Nat → Nat → Int} {f s : Nat} {Q : xQ} (hW : WF sh ν f s) {x1 : Int} {x2 : Int} {x3 : Int}
    (h : X mX8_push 0 [(0, vR 249), (1, vI 0), (2, vI 0), (3, vI 0), (4, vI x1), (5, vI x2), (6, vI x3), (7, vI 0)] [] sh (ν) (up μ 249 4 0) 0 0 (fun v sh' ν' μ' => X mX8_begin 16 [] (v.toList ++ []) sh' ν' μ' 0 0 Q)) :
    X mX8_begin 0 [(0, vR 249), (1, vI x1), (2, vI x2), (3, vI x3)] [] sh ν μ 0 0 Q := by
  refine X.aload_n (pc := 0) (i := 0) 0 dX8_begin_0 rfl rfl ?_
  refine X.iconst (pc := 1) dX8_begin_1 ⟨by decide, by decide⟩ ?_
  refine X.putI (pc := 2) dX8_begin_2 fl_X8_20 rfl (fun h9 => by cases h9) (fs_X8 hW) (Or.inl rfl) ?_
  refine X.aload_n (pc := 5) (i := 0) 0 dX8_begin_5 rfl rfl ?_
  refine X.iconst (pc := 6) dX8_begin_6 ⟨by decide, by decide⟩ ?_
  refine X.iconst (pc := 7) dX8_begin_7 ⟨by decide, by decide⟩ ?_
  refine X.iconst (pc := 8) dX8_begin_8 ⟨by decide, by decide⟩ ?_
  refine X.iload_n (pc := 9) (i := 1) 1 dX8_begin_9 rfl rfl ?_
  refine X.iload_n (pc := 10) (i := 2) 2 dX8_begin_10 rfl rfl ?_
  refine X.iload_n (pc := 11) (i := 3) 3 dX8_begin_11 rfl rfl ?_
  refine X.iconst (pc := 12) dX8_begin_12 ⟨by decide, by decide⟩ ?_
  refine X.pick [] rfl ?_
  exact X.callV (pc := 13) (vs := [vI 0, vI 0, vI 0, vI x1, vI x2, vI x3, vI 0]) (st := []) dX8_begin_13 rfl okM_X8_push rfl lk_X8_53 inst_X8_push sel_X8_push (fs_X8 hW) rfl ⟨⟨by decide, by decide⟩, ⟨by decide, by decide⟩, Nat.le_of_ble_eq_true rfl⟩ (Nat.le_of_ble_eq_true rfl) h

theorem g_X8_begin_16 {sh : List (Nat × Nat)} {ν : Nat → Nat → Option Nat} {μ : Nat → Nat → Int} {f s : Nat} {Q : xQ} (hW : WF sh ν f s) 
    (h : Q none sh (ν) (μ)) :
    X mX8_begin 16 [] [] sh ν μ 0 0 Q := by
  exact X.vret (pc := 16) dX8_begin_16 rfl (Nat.le_of_ble_eq_true rfl) (Nat.le_of_ble_eq_true rfl) h

theorem g_X8_spread_0 {sh : List (Nat × Nat)} {ν : Nat → Nat → Option Nat} {μ : Nat → Nat → Int} {f s : Nat} {Q : xQ} (hW : WF sh ν f s) {p1 : Nat} (hp1 : isRule p1)
    (h : X mX5_lay 0 [(0, vR 207), (1, vR p1), (2, vI ((μ) 249 8)), (3, vI ((μ) 249 9))] [] sh (ν) (μ) 0 0 (fun v sh' ν' μ' => X mX8_spread 16 [(0, vR 249), (1, vR p1)] (v.toList ++ []) sh' ν' μ' 0 0 Q)) :
    X mX8_spread 0 [(0, vR 249), (1, vR p1)] [] sh ν μ 0 0 Q := by
  refine X.aload_n (pc := 0) (i := 0) 0 dX8_spread_0 rfl rfl ?_
  refine X.getR (pc := 1) (b := 207) dX8_spread_1 fl_X8_49 rfl (fs_X8 hW) (fp_X8_1 hW) ?_
  refine X.aload_n (pc := 4) (i := 1) 1 dX8_spread_4 rfl rfl ?_
  refine X.aload_n (pc := 5) (i := 0) 0 dX8_spread_5 rfl rfl ?_
  refine X.getI (pc := 6) dX8_spread_6 fl_X8_33 rfl (fs_X8 hW) ?_
  refine X.aload_n (pc := 9) (i := 0) 0 dX8_spread_9 rfl rfl ?_
  refine X.getI (pc := 10) dX8_spread_10 fl_X8_36 rfl (fs_X8 hW) ?_
  exact X.callV (pc := 13) (vs := [vR p1, vI ((μ) 249 8), vI ((μ) 249 9)]) (st := []) dX8_spread_13 rfl okM_X5_lay rfl lk_X8_57 inst_X5_lay sel_X5_lay (fs_X5 hW) rfl ⟨⟨by decide, by decide⟩, ⟨by decide, by decide⟩, Nat.le_of_ble_eq_true rfl⟩ (Nat.le_of_ble_eq_true rfl) h

theorem g_X8_spread_16 {sh : List (Nat × Nat)} {ν : Nat → Nat → Option Nat} {μ : Nat → Nat → Int} {f s : Nat} {Q : xQ} (hW : WF sh ν f s) {p1 : Nat} (hp1 : isRule p1) {y0 : Int}
    (h : ((y0 ≠ 0 → X mX8_spread 35 [(0, vR 249), (2, vI (bI ((μ) p1 2 = 2 ∨ (μ) p1 2 = 4))), (3, vI (w32 (((μ) 207 3) - 1)))] [] sh (ν) (μ) 0 0 Q) ∧ (y0 = 0 → Q none sh (ν) (μ)))) :
    X mX8_spread 16 [(0, vR 249), (1, vR p1)] [vI y0] sh ν μ 0 0 Q := by
  refine X.if_ne (pc := 16) 20 dX8_spread_16 (by decide) ⟨fun q9 => ?_, fun q9 => ?_⟩
  · have h := h.1 q9
    refine X.aload_n (pc := 20) (i := 1) 1 dX8_spread_20 rfl rfl ?_
    refine X.pick [0] rfl ?_
    refine X.callV (pc := 21) (vs := []) (st := []) dX8_spread_21 rfl okM_X7_isAlongY rfl lk_X8_63 inst_X7_isAlongY sel_X7_isAlongY (fs_X7 hW hp1) rfl ⟨⟨by decide, by decide⟩, ⟨by decide, by decide⟩, Nat.le_of_ble_eq_true rfl⟩ (Nat.le_of_ble_eq_true rfl) (c_X7_isAlongY hW hp1 ?_)
    refine X.nrm (pc' := 24) (ls' := [(0, vR 249)]) (st' := [vI (bI ((μ) p1 2 = 2 ∨ (μ) p1 2 = 4))]) (k' := 0) (n' := 0) rfl rfl rfl rfl rfl ?_
    refine X.istore_n (pc := 24) (i := 2) (ls' := [(2, vI (bI ((μ) p1 2 = 2 ∨ (μ) p1 2 = 4))), (0, vR 249)]) dX8_spread_24 rfl (by decide) rfl ?_
    refine X.aload_n (pc := 25) (i := 0) 1 dX8_spread_25 rfl rfl ?_
    refine X.getR (pc := 26) (b := 207) dX8_spread_26 fl_X8_49 rfl (fs_X8 hW) (fp_X8_1 hW) ?_
    refine X.getI (pc := 29) dX8_spread_29 fl_X8_69 rfl (fs_X5 hW) ?_
    refine X.iconst (pc := 32) dX8_spread_32 ⟨by decide, by decide⟩ ?_
    refine X.isub (pc := 33) dX8_spread_33 ?_
    refine X.istore_n (pc := 34) (i := 3) (ls' := [(3, vI (w32 (((μ) 207 3) - 1))), (2, vI (bI ((μ) p1 2 = 2 ∨ (μ) p1 2 = 4))), (0, vR 249)]) dX8_spread_34 rfl (by decide) rfl ?_
    exact X.pick [2, 1, 0] rfl h
  · have h := h.2 q9
    exact X.vret (pc := 19) dX8_spread_19 rfl (Nat.le_of_ble_eq_true rfl) (Nat.le_of_ble_eq_true rfl) h

theorem g_X8_spread_35 {sh : List (Nat × Nat)} {ν : Nat → Nat → Option Nat} {μ : Nat → Nat → Int} {f s : Nat} {Q : xQ} (hW : WF sh ν f s) {x2 : Int} {x3 : Int}
    (h : ((x3 < 0 → Q none sh (ν) (μ)) ∧ (0 ≤ x3 → (0 ≤ x3 ∧ x3 < (20 : Nat)) ∧ (0 ≤ x3 ∧ x3 < (20 : Nat)) ∧ ((x2 = 0 → (0 ≤ x3 ∧ x3 < (20 : Nat)) ∧ X mX8_push 0 [(0, vR 249), (1, vI ((μ) 208 (Int.toNat x3))), (2, vI (w32 (((μ) 249 6) + ((μ) 209 (Int.toNat x3))))), (3, vI ((μ) 249 7)), (4, vI ((μ) 210 (Int.toNat x3))), (5, vI ((μ) 249 9)), (6, vI (w32 ((w32 ((w32 (31 * ((μ) 249 10))) + x3)) + 1))), (7, vI (w32 (((μ) 249 11) + 1)))] [] sh (ν) (μ) 0 0 (fun v sh' ν' μ' => X mX8_spread 157 [(0, vR 249), (2, vI x2), (3, vI x3)] (v.toList ++ []) sh' ν' μ' 0 0 Q)) ∧ (x2 ≠ 0 → (0 ≤ x3 ∧ x3 < (20 : Nat)) ∧ X mX8_push 0 [(0, vR 249), (1, vI ((μ) 208 (Int.toNat x3))), (2, vI ((μ) 249 6)), (3, vI (w32 (((μ) 249 7) + ((μ) 209 (Int.toNat x3))))), (4, vI ((μ) 249 8)), (5, vI ((μ) 210 (Int.toNat x3))), (6, vI (w32 ((w32 ((w32 (31 * ((μ) 249 10))) + x3)) + 1))), (7, vI (w32 (((μ) 249 11) + 1)))] [] sh (ν) (μ) 0 0 (fun v sh' ν' μ' => X mX8_spread 116 [(0, vR 249), (2, vI x2), (3, vI x3)] (v.toList ++ []) sh' ν' μ' 0 0 Q)))))) :
    X mX8_spread 35 [(0, vR 249), (2, vI x2), (3, vI x3)] [] sh ν μ 0 0 Q := by
  refine X.iload_n (pc := 35) (i := 3) 2 dX8_spread_35 rfl rfl ?_
  refine X.if_lt (pc := 36) 163 dX8_spread_36 (by decide) ⟨fun q9 => ?_, fun q9 => ?_⟩
  · have h := h.1 q9
    exact X.vret (pc := 163) dX8_spread_163 rfl (Nat.le_of_ble_eq_true rfl) (Nat.le_of_ble_eq_true rfl) h
  · have h := h.2 q9
    refine X.aload_n (pc := 39) (i := 0) 0 dX8_spread_39 rfl rfl ?_
    refine X.getR (pc := 40) (b := 207) dX8_spread_40 fl_X8_49 rfl (fs_X8 hW) (fp_X8_1 hW) ?_
    refine X.getR (pc := 43) (b := 209) dX8_spread_43 fl_X8_72 rfl (fs_X5 hW) (fp_X5_1 hW) ?_
    refine X.iload_n (pc := 46) (i := 3) 2 dX8_spread_46 rfl rfl ?_
    obtain ⟨c1, h⟩ := h
    refine X.iaload (pc := 47) dX8_spread_47 (fa_X5_1 hW) c1 ?_
    refine X.istore (pc := 48) (i := 4) (ls' := [(4, vI ((μ) 209 (Int.toNat x3))), (0, vR 249), (2, vI x2), (3, vI x3)]) dX8_spread_48 (by decide) rfl ?_
    refine X.aload_n (pc := 50) (i := 0) 1 dX8_spread_50 rfl rfl ?_
    refine X.getR (pc := 51) (b := 207) dX8_spread_51 fl_X8_49 rfl (fs_X8 hW) (fp_X8_1 hW) ?_
    refine X.getR (pc := 54) (b := 210) dX8_spread_54 fl_X8_75 rfl (fs_X5 hW) (fp_X5_2 hW) ?_
    refine X.iload_n (pc := 57) (i := 3) 3 dX8_spread_57 rfl rfl ?_
    obtain ⟨c2, h⟩ := h
    refine X.iaload (pc := 58) dX8_spread_58 (fa_X5_2 hW) c2 ?_
    refine X.istore (pc := 59) (i := 5) (ls' := [(5, vI ((μ) 210 (Int.toNat x3))), (4, vI ((μ) 209 (Int.toNat x3))), (0, vR 249), (2, vI x2), (3, vI x3)]) dX8_spread_59 (by decide) rfl ?_
    refine X.bipush (pc := 61) (y := 31) dX8_spread_61 rfl ⟨by decide, by decide⟩ ?_
    refine X.aload_n (pc := 63) (i := 0) 2 dX8_spread_63 rfl rfl ?_
    refine X.getI (pc := 64) dX8_spread_64 fl_X8_39 rfl (fs_X8 hW) ?_
    refine X.imul (pc := 67) dX8_spread_67 ?_
    refine X.iload_n (pc := 68) (i := 3) 4 dX8_spread_68 rfl rfl ?_
    refine X.iadd (pc := 69) dX8_spread_69 ?_
    refine X.iconst (pc := 70) dX8_spread_70 ⟨by decide, by decide⟩ ?_
    refine X.iadd (pc := 71) dX8_spread_71 ?_
    refine X.istore (pc := 72) (i := 6) (ls' := [(6, vI (w32 ((w32 ((w32 (31 * ((μ) 249 10))) + x3)) + 1))), (5, vI ((μ) 210 (Int.toNat x3))), (4, vI ((μ) 209 (Int.toNat x3))), (0, vR 249), (2, vI x2), (3, vI x3)]) dX8_spread_72 (by decide) rfl ?_
    refine X.iload_n (pc := 74) (i := 2) 4 dX8_spread_74 rfl rfl ?_
    refine X.if_eq (pc := 75) 119 dX8_spread_75 (by decide) ⟨fun q9 => ?_, fun q9 => ?_⟩
    · have h := h.1 q9
      refine X.aload_n (pc := 119) (i := 0) 3 dX8_spread_119 rfl rfl ?_
      refine X.aload_n (pc := 120) (i := 0) 3 dX8_spread_120 rfl rfl ?_
      refine X.getR (pc := 121) (b := 207) dX8_spread_121 fl_X8_49 rfl (fs_X8 hW) (fp_X8_1 hW) ?_
      refine X.getR (pc := 124) (b := 208) dX8_spread_124 fl_X8_78 rfl (fs_X5 hW) (fp_X5_0 hW) ?_
      refine X.iload_n (pc := 127) (i := 3) 5 dX8_spread_127 rfl rfl ?_
      obtain ⟨c3, h⟩ := h
      refine X.iaload (pc := 128) dX8_spread_128 (fa_X5_0 hW) c3 ?_
      refine X.aload_n (pc := 129) (i := 0) 3 dX8_spread_129 rfl rfl ?_
      refine X.getI (pc := 130) dX8_spread_130 fl_X8_27 rfl (fs_X8 hW) ?_
      refine X.iload (pc := 133) (i := 4) 2 dX8_spread_133 rfl ?_
      refine X.iadd (pc := 135) dX8_spread_135 ?_
      refine X.aload_n (pc := 136) (i := 0) 3 dX8_spread_136 rfl rfl ?_
      refine X.getI (pc := 137) dX8_spread_137 fl_X8_30 rfl (fs_X8 hW) ?_
      refine X.iload (pc := 140) (i := 5) 1 dX8_spread_140 rfl ?_
      refine X.aload_n (pc := 142) (i := 0) 3 dX8_spread_142 rfl rfl ?_
      refine X.getI (pc := 143) dX8_spread_143 fl_X8_36 rfl (fs_X8 hW) ?_
      refine X.iload (pc := 146) (i := 6) 0 dX8_spread_146 rfl ?_
      refine X.aload_n (pc := 148) (i := 0) 3 dX8_spread_148 rfl rfl ?_
      refine X.getI (pc := 149) dX8_spread_149 fl_X8_42 rfl (fs_X8 hW) ?_
      refine X.iconst (pc := 152) dX8_spread_152 ⟨by decide, by decide⟩ ?_
      refine X.iadd (pc := 153) dX8_spread_153 ?_
      refine X.pick [3, 4, 5] rfl ?_
      exact X.callV (pc := 154) (vs := [vI ((μ) 208 (Int.toNat x3)), vI (w32 (((μ) 249 6) + ((μ) 209 (Int.toNat x3)))), vI ((μ) 249 7), vI ((μ) 210 (Int.toNat x3)), vI ((μ) 249 9), vI (w32 ((w32 ((w32 (31 * ((μ) 249 10))) + x3)) + 1)), vI (w32 (((μ) 249 11) + 1))]) (st := []) dX8_spread_154 rfl okM_X8_push rfl lk_X8_53 inst_X8_push sel_X8_push (fs_X8 hW) rfl ⟨⟨by decide, by decide⟩, ⟨by decide, by decide⟩, Nat.le_of_ble_eq_true rfl⟩ (Nat.le_of_ble_eq_true rfl) h
    · have h := h.2 q9
      refine X.aload_n (pc := 78) (i := 0) 3 dX8_spread_78 rfl rfl ?_
      refine X.aload_n (pc := 79) (i := 0) 3 dX8_spread_79 rfl rfl ?_
      refine X.getR (pc := 80) (b := 207) dX8_spread_80 fl_X8_49 rfl (fs_X8 hW) (fp_X8_1 hW) ?_
      refine X.getR (pc := 83) (b := 208) dX8_spread_83 fl_X8_78 rfl (fs_X5 hW) (fp_X5_0 hW) ?_
      refine X.iload_n (pc := 86) (i := 3) 5 dX8_spread_86 rfl rfl ?_
      obtain ⟨c4, h⟩ := h
      refine X.iaload (pc := 87) dX8_spread_87 (fa_X5_0 hW) c4 ?_
      refine X.aload_n (pc := 88) (i := 0) 3 dX8_spread_88 rfl rfl ?_
      refine X.getI (pc := 89) dX8_spread_89 fl_X8_27 rfl (fs_X8 hW) ?_
      refine X.aload_n (pc := 92) (i := 0) 3 dX8_spread_92 rfl rfl ?_
      refine X.getI (pc := 93) dX8_spread_93 fl_X8_30 rfl (fs_X8 hW) ?_
      refine X.iload (pc := 96) (i := 4) 2 dX8_spread_96 rfl ?_
      refine X.iadd (pc := 98) dX8_spread_98 ?_
      refine X.aload_n (pc := 99) (i := 0) 3 dX8_spread_99 rfl rfl ?_
      refine X.getI (pc := 100) dX8_spread_100 fl_X8_33 rfl (fs_X8 hW) ?_
      refine X.iload (pc := 103) (i := 5) 1 dX8_spread_103 rfl ?_
      refine X.iload (pc := 105) (i := 6) 0 dX8_spread_105 rfl ?_
      refine X.aload_n (pc := 107) (i := 0) 3 dX8_spread_107 rfl rfl ?_
      refine X.getI (pc := 108) dX8_spread_108 fl_X8_42 rfl (fs_X8 hW) ?_
      refine X.iconst (pc := 111) dX8_spread_111 ⟨by decide, by decide⟩ ?_
      refine X.iadd (pc := 112) dX8_spread_112 ?_
      refine X.pick [3, 4, 5] rfl ?_
      exact X.callV (pc := 113) (vs := [vI ((μ) 208 (Int.toNat x3)), vI ((μ) 249 6), vI (w32 (((μ) 249 7) + ((μ) 209 (Int.toNat x3)))), vI ((μ) 249 8), vI ((μ) 210 (Int.toNat x3)), vI (w32 ((w32 ((w32 (31 * ((μ) 249 10))) + x3)) + 1)), vI (w32 (((μ) 249 11) + 1))]) (st := []) dX8_spread_113 rfl okM_X8_push rfl lk_X8_53 inst_X8_push sel_X8_push (fs_X8 hW) rfl ⟨⟨by decide, by decide⟩, ⟨by decide, by decide⟩, Nat.le_of_ble_eq_true rfl⟩ (Nat.le_of_ble_eq_true rfl) h

theorem g_X8_spread_116 {sh : List (Nat × Nat)} {ν : Nat → Nat → Option Nat} {μ : Nat → Nat → Int} {f s : Nat} {Q : xQ} (hW : WF sh ν f s) {x2 : Int} {x3 : Int}
    (h : X mX8_spread 157 [(0, vR 249), (2, vI x2), (3, vI x3)] [] sh (ν) (μ) 0 0 Q) :
    X mX8_spread 116 [(0, vR 249), (2, vI x2), (3, vI x3)] [] sh ν μ 0 0 Q := by
  refine X.goto (pc := 116) (tgt := 157) dX8_spread_116 (by decide) ?_
  exact h

theorem g_X8_spread_157 {sh : List (Nat × Nat)} {ν : Nat → Nat → Option Nat} {μ : Nat → Nat → Int} {f s : Nat} {Q : xQ} (hW : WF sh ν f s) {x2 : Int} {x3 : Int}
    (h : X mX8_spread 35 [(0, vR 249), (2, vI x2), (3, vI (w32 (x3 + (-1))))] [] sh (ν) (μ) 0 0 Q) :
    X mX8_spread 157 [(0, vR 249), (2, vI x2), (3, vI x3)] [] sh ν μ 0 0 Q := by
  refine X.iinc (pc := 157) (i := 3) (ls' := [(3, vI (w32 (x3 + (-1)))), (0, vR 249), (2, vI x2)]) 2 dX8_spread_157 rfl (by decide) rfl ?_
  refine X.goto (pc := 160) (tgt := 35) dX8_spread_160 (by decide) ?_
  exact X.pick [1, 2, 0] rfl h

theorem g_X8_grow_0 {sh : List (Nat × Nat)} {ν : Nat → Nat → Option Nat} {μ : Nat → Nat → Int} {f s : Nat} {Q : xQ} (hW : WF sh ν f s) {p1 : Nat} (hp1 : isFront p1) {x2 : Int} {x3 : Int} {x4 : Int}
    (h : X mX8_begin 0 [(0, vR 249), (1, vI x3), (2, vI x4), (3, vI x2)] [] sh (ν) (up (up (up (up μ p1 2 x3) p1 3 x4) p1 4 0) p1 5 0) 0 0 (fun v sh' ν' μ' => X mX8_grow 15 [(0, vR 249), (1, vR p1)] (v.toList ++ []) sh' ν' μ' 0 0 Q)) :
    X mX8_grow 0 [(0, vR 249), (1, vR p1), (2, vI x2), (3, vI x3), (4, vI x4)] [] sh ν μ 0 0 Q := by
  refine X.aload_n (pc := 0) (i := 1) 1 dX8_grow_0 rfl rfl ?_
  refine X.iload_n (pc := 1) (i := 3) 3 dX8_grow_1 rfl rfl ?_
  refine X.iload (pc := 2) (i := 4) 4 dX8_grow_2 rfl ?_
  refine X.callV (pc := 4) (vs := [vI x3, vI x4]) (st := []) dX8_grow_4 rfl okM_X2_begin rfl lk_X8_80 inst_X2_begin sel_X2_begin (fs_X2 hW hp1) rfl ⟨⟨by decide, by decide⟩, ⟨by decide, by decide⟩, Nat.le_of_ble_eq_true rfl⟩ (Nat.le_of_ble_eq_true rfl) ?_
  refine X.nrm (pc' := 0) (ls' := [(0, vR p1), (1, vI x3), (2, vI x4)]) (st' := []) (k' := 0) (n' := 0) rfl rfl rfl rfl rfl ?_
  refine X.aload_n (pc := 0) (i := 0) 0 dX2_begin_0 rfl rfl ?_
  refine X.iload_n (pc := 1) (i := 1) 1 dX2_begin_1 rfl rfl ?_
  refine X.putI (pc := 2) dX2_begin_2 fl_X2_18 rfl (fun h9 => by cases h9) (fs_X2 hW hp1) (Or.inl rfl) ?_
  refine X.aload_n (pc := 5) (i := 0) 0 dX2_begin_5 rfl rfl ?_
  refine X.iload_n (pc := 6) (i := 2) 2 dX2_begin_6 rfl rfl ?_
  refine X.putI (pc := 7) dX2_begin_7 fl_X2_22 rfl (fun h9 => by cases h9) (fs_X2 hW hp1) (Or.inl rfl) ?_
  refine X.aload_n (pc := 10) (i := 0) 0 dX2_begin_10 rfl rfl ?_
  refine X.iconst (pc := 11) dX2_begin_11 ⟨by decide, by decide⟩ ?_
  refine X.putI (pc := 12) dX2_begin_12 fl_X2_25 rfl (fun h9 => by cases h9) (fs_X2 hW hp1) (Or.inl rfl) ?_
  refine X.aload_n (pc := 15) (i := 0) 0 dX2_begin_15 rfl rfl ?_
  refine X.iconst (pc := 16) dX2_begin_16 ⟨by decide, by decide⟩ ?_
  refine X.putI (pc := 17) dX2_begin_17 fl_X2_28 rfl (fun h9 => by cases h9) (fs_X2 hW hp1) (Or.inl rfl) ?_
  refine X.vret (pc := 20) dX2_begin_20 rfl (Nat.le_of_ble_eq_true rfl) (Nat.le_of_ble_eq_true rfl) ?_
  refine X.nrm (pc' := 7) (ls' := [(0, vR 249), (1, vR p1), (2, vI x2), (3, vI x3), (4, vI x4)]) (st' := []) (k' := 0) (n' := 0) rfl rfl rfl rfl rfl ?_
  refine X.aload_n (pc := 7) (i := 0) 0 dX8_grow_7 rfl rfl ?_
  refine X.iload_n (pc := 8) (i := 3) 3 dX8_grow_8 rfl rfl ?_
  refine X.iload (pc := 9) (i := 4) 4 dX8_grow_9 rfl ?_
  refine X.iload_n (pc := 11) (i := 2) 2 dX8_grow_11 rfl rfl ?_
  refine X.pick [0, 1] rfl ?_
  exact X.callV (pc := 12) (vs := [vI x3, vI x4, vI x2]) (st := []) dX8_grow_12 rfl okM_X8_begin rfl lk_X8_85 inst_X8_begin sel_X8_begin (fs_X8 hW) rfl ⟨⟨by decide, by decide⟩, ⟨by decide, by decide⟩, Nat.le_of_ble_eq_true rfl⟩ (Nat.le_of_ble_eq_true rfl) h

theorem g_X8_grow_15 {sh : List (Nat × Nat)} {ν : Nat → Nat → Option Nat} {μ : Nat → Nat → Int} {f s : Nat} {Q : xQ} (hW : WF sh ν f s) {p1 : Nat} (hp1 : isFront p1)
    (h : X mX8_grow 18 [(0, vR 249), (1, vR p1), (5, vI 0)] [] sh (ν) (μ) 0 0 Q) :
    X mX8_grow 15 [(0, vR 249), (1, vR p1)] [] sh ν μ 0 0 Q := by
  refine X.iconst (pc := 15) dX8_grow_15 ⟨by decide, by decide⟩ ?_
  refine X.istore (pc := 16) (i := 5) (ls' := [(5, vI 0), (0, vR 249), (1, vR p1)]) dX8_grow_16 (by decide) rfl ?_
  exact X.pick [1, 2, 0] rfl h

theorem g_X8_grow_18 {sh : List (Nat × Nat)} {ν : Nat → Nat → Option Nat} {μ : Nat → Nat → Int} {f s : Nat} {Q : xQ} (hW : WF sh ν f s) {p1 : Nat} (hp1 : isFront p1) {x5 : Int}
    (h : ((8000 < x5 → Q (some (vI 0)) sh (ν) (μ)) ∧ (x5 ≤ 8000 → X mX8_next 0 [(0, vR 249)] [] sh (ν) (μ) 0 0 (fun v sh' ν' μ' => X mX8_grow 30 [(0, vR 249), (1, vR p1), (5, vI x5)] (v.toList ++ []) sh' ν' μ' 0 0 Q)))) :
    X mX8_grow 18 [(0, vR 249), (1, vR p1), (5, vI x5)] [] sh ν μ 0 0 Q := by
  refine X.iload (pc := 18) (i := 5) 2 dX8_grow_18 rfl ?_
  refine X.sipush (pc := 20) (y := 8000) dX8_grow_20 rfl ⟨by decide, by decide⟩ ?_
  refine X.icmp_gt (pc := 23) 135 dX8_grow_23 (by decide) ⟨fun q9 => ?_, fun q9 => ?_⟩
  · have h := h.1 q9
    refine X.iconst (pc := 135) dX8_grow_135 ⟨by decide, by decide⟩ ?_
    exact X.iret (pc := 136) dX8_grow_136 rfl (Nat.le_of_ble_eq_true rfl) (Nat.le_of_ble_eq_true rfl) h
  · have h := h.2 q9
    refine X.aload_n (pc := 26) (i := 0) 0 dX8_grow_26 rfl rfl ?_
    exact X.callV (pc := 27) (vs := []) (st := []) dX8_grow_27 rfl okM_X8_next rfl lk_X8_88 inst_X8_next sel_X8_next (fs_X8 hW) rfl ⟨⟨by decide, by decide⟩, ⟨by decide, by decide⟩, Nat.le_of_ble_eq_true rfl⟩ (Nat.le_of_ble_eq_true rfl) h

theorem g_X8_grow_30 {sh : List (Nat × Nat)} {ν : Nat → Nat → Option Nat} {μ : Nat → Nat → Int} {f s : Nat} {Q : xQ} (hW : WF sh ν f s) {p1 : Nat} (hp1 : isFront p1) {x5 : Int} {y0 : Int}
    (h : ((y0 = 0 → Q (some (vI 0)) sh (ν) (μ)) ∧ (y0 ≠ 0 → ((((μ) 249 11) < 20 → X mX8_choose 0 [(0, vR 249)] [] sh (ν) (μ) 0 0 (fun v sh' ν' μ' => X mX8_grow 48 [(0, vR 249), (1, vR p1), (5, vI x5)] (v.toList ++ []) sh' ν' μ' 0 0 Q)) ∧ (20 ≤ ((μ) 249 11) → Q (some (vI 2)) sh (ν) (μ)))))) :
    X mX8_grow 30 [(0, vR 249), (1, vR p1), (5, vI x5)] [vI y0] sh ν μ 0 0 Q := by
  refine X.if_eq (pc := 30) 135 dX8_grow_30 (by decide) ⟨fun q9 => ?_, fun q9 => ?_⟩
  · have h := h.1 q9
    refine X.iconst (pc := 135) dX8_grow_135 ⟨by decide, by decide⟩ ?_
    exact X.iret (pc := 136) dX8_grow_136 rfl (Nat.le_of_ble_eq_true rfl) (Nat.le_of_ble_eq_true rfl) h
  · have h := h.2 q9
    refine X.aload_n (pc := 33) (i := 0) 0 dX8_grow_33 rfl rfl ?_
    refine X.getI (pc := 34) dX8_grow_34 fl_X8_42 rfl (fs_X8 hW) ?_
    refine X.bipush (pc := 37) (y := 20) dX8_grow_37 rfl ⟨by decide, by decide⟩ ?_
    refine X.icmp_lt (pc := 39) 44 dX8_grow_39 (by decide) ⟨fun q9 => ?_, fun q9 => ?_⟩
    · have h := h.1 q9
      refine X.aload_n (pc := 44) (i := 0) 0 dX8_grow_44 rfl rfl ?_
      exact X.callV (pc := 45) (vs := []) (st := []) dX8_grow_45 rfl okM_X8_choose rfl lk_X8_91 inst_X8_choose sel_X8_choose (fs_X8 hW) rfl ⟨⟨by decide, by decide⟩, ⟨by decide, by decide⟩, Nat.le_of_ble_eq_true rfl⟩ (Nat.le_of_ble_eq_true rfl) h
    · have h := h.2 q9
      refine X.iconst (pc := 42) dX8_grow_42 ⟨by decide, by decide⟩ ?_
      exact X.iret (pc := 43) dX8_grow_43 rfl (Nat.le_of_ble_eq_true rfl) (Nat.le_of_ble_eq_true rfl) h

theorem g_X8_grow_48 {sh : List (Nat × Nat)} {ν : Nat → Nat → Option Nat} {μ : Nat → Nat → Int} {f s : Nat} {Q : xQ} (hW : WF sh ν f s) {p1 : Nat} (hp1 : isFront p1) {x5 : Int} {y0 : Int}
    (h : (((0 ≤ y0 ∧ y0 < (μ) 1 2) → (0 ≤ y0 ∧ y0 < (40 : Nat)) ∧ X mX2_add 0 [(0, vR p1), (1, vI y0), (2, vI ((μ) (7 + 5 * (Int.toNat y0)) 3))] [] sh (ν) (μ) 0 0 (fun v sh' ν' μ' => X mX8_grow 87 [(0, vR 249), (1, vR p1), (5, vI x5), (7, vR (7 + 5 * (Int.toNat y0)))] (v.toList ++ []) sh' ν' μ' 0 0 Q)) ∧ (¬ (0 ≤ y0 ∧ y0 < (μ) 1 2) → Q (some (vI 1)) sh (ν) (μ)))) :
    X mX8_grow 48 [(0, vR 249), (1, vR p1), (5, vI x5)] [vI y0] sh ν μ 0 0 Q := by
  refine X.istore (pc := 48) (i := 6) (ls' := [(6, vI y0), (0, vR 249), (1, vR p1), (5, vI x5)]) dX8_grow_48 (by decide) rfl ?_
  refine X.aload_n (pc := 50) (i := 0) 1 dX8_grow_50 rfl rfl ?_
  refine X.getR (pc := 51) (b := 1) dX8_grow_51 fl_X8_45 rfl (fs_X8 hW) (fp_X8_0 hW) ?_
  refine X.iload (pc := 54) (i := 6) 0 dX8_grow_54 rfl ?_
  refine X.pick [1, 2, 3, 0] rfl ?_
  refine X.callV (pc := 56) (vs := [vI y0]) (st := []) dX8_grow_56 rfl okM_X3_has rfl lk_X8_95 inst_X3_has sel_X3_has (fs_X3 hW) rfl ⟨⟨by decide, by decide⟩, ⟨by decide, by decide⟩, Nat.le_of_ble_eq_true rfl⟩ (Nat.le_of_ble_eq_true rfl) (c_X3_has hW ?_)
  refine X.nrm (pc' := 59) (ls' := [(0, vR 249), (1, vR p1), (5, vI x5), (6, vI y0)]) (st' := [vI (bI (0 ≤ y0 ∧ y0 < (μ) 1 2))]) (k' := 0) (n' := 0) rfl rfl rfl rfl rfl ?_
  refine X.if_ne (pc := 59) 64 dX8_grow_59 (by decide) ⟨fun q9 => ?_, fun q9 => ?_⟩
  · have h := h.1 (bI_ne.mp q9)
    refine X.aload_n (pc := 64) (i := 0) 0 dX8_grow_64 rfl rfl ?_
    refine X.getR (pc := 65) (b := 1) dX8_grow_65 fl_X8_45 rfl (fs_X8 hW) (fp_X8_0 hW) ?_
    refine X.getR (pc := 68) (b := 2) dX8_grow_68 fl_X8_101 rfl (fs_X3 hW) (fp_X3_0 hW) ?_
    refine X.iload (pc := 71) (i := 6) 3 dX8_grow_71 rfl ?_
    obtain ⟨c1, h⟩ := h
    refine X.aaload (pc := 73) dX8_grow_73 (fa_X3_0 hW) (Or.inl rfl) c1 (fe_rules hW c1) ?_
    refine X.astore (pc := 74) (i := 7) (ls' := [(7, vR (7 + 5 * (Int.toNat y0))), (0, vR 249), (1, vR p1), (5, vI x5), (6, vI y0)]) dX8_grow_74 (by decide) rfl ?_
    refine X.aload_n (pc := 76) (i := 1) 2 dX8_grow_76 rfl rfl ?_
    refine X.iload (pc := 77) (i := 6) 4 dX8_grow_77 rfl ?_
    refine X.aload (pc := 79) (i := 7) 0 dX8_grow_79 rfl ?_
    refine X.getI (pc := 81) dX8_grow_81 fl_X8_105 rfl (fs_X7 hW (mk_rules c1)) ?_
    refine X.pick [1, 2, 3, 0] rfl ?_
    exact X.callV (pc := 84) (vs := [vI y0, vI ((μ) (7 + 5 * (Int.toNat y0)) 3)]) (st := []) dX8_grow_84 rfl okM_X2_add rfl lk_X8_108 inst_X2_add sel_X2_add (fs_X2 hW hp1) rfl ⟨⟨by decide, by decide⟩, ⟨by decide, by decide⟩, Nat.le_of_ble_eq_true rfl⟩ (Nat.le_of_ble_eq_true rfl) h
  · have h := h.2 (bI_eq.mp q9)
    refine X.iconst (pc := 62) dX8_grow_62 ⟨by decide, by decide⟩ ?_
    exact X.iret (pc := 63) dX8_grow_63 rfl (Nat.le_of_ble_eq_true rfl) (Nat.le_of_ble_eq_true rfl) h

theorem g_X8_grow_87 {sh : List (Nat × Nat)} {ν : Nat → Nat → Option Nat} {μ : Nat → Nat → Int} {f s : Nat} {Q : xQ} (hW : WF sh ν f s) {p1 : Nat} (hp1 : isFront p1) {x5 : Int} {p7 : Nat} (hp7 : isRule p7)
    (h : ((((μ) p7 2) ≠ 0 → X mX8_spread 0 [(0, vR 249), (1, vR p7)] [] sh (ν) (μ) 0 0 (fun v sh' ν' μ' => X mX8_grow 129 [(0, vR 249), (1, vR p1), (5, vI x5)] (v.toList ++ []) sh' ν' μ' 0 0 Q)) ∧ (((μ) p7 2) = 0 → X mX2_paint 0 [(0, vR p1), (1, vI ((μ) 249 6)), (2, vI ((μ) 249 7)), (3, vI ((μ) 249 8)), (4, vI ((μ) 249 9)), (5, vI ((μ) p7 4))] [] sh (ν) (μ) 0 0 (fun v sh' ν' μ' => X mX8_grow 120 [(0, vR 249), (1, vR p1), (5, vI x5)] (v.toList ++ []) sh' ν' μ' 0 0 Q)))) :
    X mX8_grow 87 [(0, vR 249), (1, vR p1), (5, vI x5), (7, vR p7)] [] sh ν μ 0 0 Q := by
  refine X.aload (pc := 87) (i := 7) 3 dX8_grow_87 rfl ?_
  refine X.getI (pc := 89) dX8_grow_89 fl_X8_111 rfl (fs_X7 hW hp7) ?_
  refine X.if_ne (pc := 92) 123 dX8_grow_92 (by decide) ⟨fun q9 => ?_, fun q9 => ?_⟩
  · have h := h.1 q9
    refine X.aload_n (pc := 123) (i := 0) 0 dX8_grow_123 rfl rfl ?_
    refine X.aload (pc := 124) (i := 7) 3 dX8_grow_124 rfl ?_
    refine X.pick [0, 1, 2] rfl ?_
    exact X.callV (pc := 126) (vs := [vR p7]) (st := []) dX8_grow_126 rfl okM_X8_spread rfl lk_X8_121 inst_X8_spread sel_X8_spread (fs_X8 hW) rfl ⟨⟨by decide, by decide⟩, ⟨by decide, by decide⟩, Nat.le_of_ble_eq_true rfl⟩ (Nat.le_of_ble_eq_true rfl) h
  · have h := h.2 q9
    refine X.aload_n (pc := 95) (i := 1) 1 dX8_grow_95 rfl rfl ?_
    refine X.aload_n (pc := 96) (i := 0) 0 dX8_grow_96 rfl rfl ?_
    refine X.getI (pc := 97) dX8_grow_97 fl_X8_27 rfl (fs_X8 hW) ?_
    refine X.aload_n (pc := 100) (i := 0) 0 dX8_grow_100 rfl rfl ?_
    refine X.getI (pc := 101) dX8_grow_101 fl_X8_30 rfl (fs_X8 hW) ?_
    refine X.aload_n (pc := 104) (i := 0) 0 dX8_grow_104 rfl rfl ?_
    refine X.getI (pc := 105) dX8_grow_105 fl_X8_33 rfl (fs_X8 hW) ?_
    refine X.aload_n (pc := 108) (i := 0) 0 dX8_grow_108 rfl rfl ?_
    refine X.getI (pc := 109) dX8_grow_109 fl_X8_36 rfl (fs_X8 hW) ?_
    refine X.aload (pc := 112) (i := 7) 3 dX8_grow_112 rfl ?_
    refine X.getI (pc := 114) dX8_grow_114 fl_X8_114 rfl (fs_X7 hW hp7) ?_
    refine X.pick [0, 1, 2] rfl ?_
    exact X.callV (pc := 117) (vs := [vI ((μ) 249 6), vI ((μ) 249 7), vI ((μ) 249 8), vI ((μ) 249 9), vI ((μ) p7 4)]) (st := []) dX8_grow_117 rfl okM_X2_paint rfl lk_X8_117 inst_X2_paint sel_X2_paint (fs_X2 hW hp1) rfl ⟨⟨by decide, by decide⟩, ⟨by decide, by decide⟩, Nat.le_of_ble_eq_true rfl⟩ (Nat.le_of_ble_eq_true rfl) h

theorem g_X8_grow_120 {sh : List (Nat × Nat)} {ν : Nat → Nat → Option Nat} {μ : Nat → Nat → Int} {f s : Nat} {Q : xQ} (hW : WF sh ν f s) {p1 : Nat} (hp1 : isFront p1) {x5 : Int}
    (h : X mX8_grow 129 [(0, vR 249), (1, vR p1), (5, vI x5)] [] sh (ν) (μ) 0 0 Q) :
    X mX8_grow 120 [(0, vR 249), (1, vR p1), (5, vI x5)] [] sh ν μ 0 0 Q := by
  refine X.goto (pc := 120) (tgt := 129) dX8_grow_120 (by decide) ?_
  exact h

theorem g_X8_grow_129 {sh : List (Nat × Nat)} {ν : Nat → Nat → Option Nat} {μ : Nat → Nat → Int} {f s : Nat} {Q : xQ} (hW : WF sh ν f s) {p1 : Nat} (hp1 : isFront p1) {x5 : Int}
    (h : X mX8_grow 18 [(0, vR 249), (1, vR p1), (5, vI (w32 (x5 + 1)))] [] sh (ν) (μ) 0 0 Q) :
    X mX8_grow 129 [(0, vR 249), (1, vR p1), (5, vI x5)] [] sh ν μ 0 0 Q := by
  refine X.iinc (pc := 129) (i := 5) (ls' := [(5, vI (w32 (x5 + 1))), (0, vR 249), (1, vR p1)]) 2 dX8_grow_129 rfl (by decide) rfl ?_
  refine X.goto (pc := 132) (tgt := 18) dX8_grow_132 (by decide) ?_
  exact X.pick [1, 2, 0] rfl h

theorem g_X8_choose_0 {sh : List (Nat × Nat)} {ν : Nat → Nat → Option Nat} {μ : Nat → Nat → Int} {f s : Nat} {Q : xQ} (hW : WF sh ν f s) 
    (h : X mX8_choose 4 [(0, vR 249), (1, vI 0), (2, vI 0)] [] sh (ν) (μ) 0 0 Q) :
    X mX8_choose 0 [(0, vR 249)] [] sh ν μ 0 0 Q := by
  refine X.iconst (pc := 0) dX8_choose_0 ⟨by decide, by decide⟩ ?_
  refine X.istore_n (pc := 1) (i := 1) (ls' := [(1, vI 0), (0, vR 249)]) dX8_choose_1 rfl (by decide) rfl ?_
  refine X.iconst (pc := 2) dX8_choose_2 ⟨by decide, by decide⟩ ?_
  refine X.istore_n (pc := 3) (i := 2) (ls' := [(2, vI 0), (1, vI 0), (0, vR 249)]) dX8_choose_3 rfl (by decide) rfl ?_
  exact X.pick [2, 1, 0] rfl h

theorem g_X8_choose_4 {sh : List (Nat × Nat)} {ν : Nat → Nat → Option Nat} {μ : Nat → Nat → Int} {f s : Nat} {Q : xQ} (hW : WF sh ν f s) {x1 : Int} {x2 : Int}
    (h : ((((μ) 1 2) ≤ x2 → X mX8_choose 77 [(0, vR 249), (1, vI x1)] [] sh (ν) (μ) 0 0 Q) ∧ (x2 < ((μ) 1 2) → ((40 ≤ x2 → X mX8_choose 77 [(0, vR 249), (1, vI x1)] [] sh (ν) (μ) 0 0 Q) ∧ (x2 < 40 → (0 ≤ x2 ∧ x2 < (40 : Nat)) ∧ ((((μ) (7 + 5 * (Int.toNat x2)) 1) ≠ ((μ) 249 5) → X mX8_choose 71 [(0, vR 249), (1, vI x1), (2, vI x2)] [] sh (ν) (μ) 0 0 Q) ∧ (((μ) (7 + 5 * (Int.toNat x2)) 1) = ((μ) 249 5) → X mX5_lay 0 [(0, vR 207), (1, vR (7 + 5 * (Int.toNat x2))), (2, vI ((μ) 249 8)), (3, vI ((μ) 249 9))] [] sh (ν) (μ) 0 0 (fun v sh' ν' μ' => X mX8_choose 58 [(0, vR 249), (1, vI x1), (2, vI x2)] (v.toList ++ []) sh' ν' μ' 0 0 Q)))))))) :
    X mX8_choose 4 [(0, vR 249), (1, vI x1), (2, vI x2)] [] sh ν μ 0 0 Q := by
  refine X.iload_n (pc := 4) (i := 2) 2 dX8_choose_4 rfl rfl ?_
  refine X.aload_n (pc := 5) (i := 0) 0 dX8_choose_5 rfl rfl ?_
  refine X.getR (pc := 6) (b := 1) dX8_choose_6 fl_X8_45 rfl (fs_X8 hW) (fp_X8_0 hW) ?_
  refine X.getI (pc := 9) dX8_choose_9 fl_X8_125 rfl (fs_X3 hW) ?_
  refine X.icmp_ge (pc := 12) 77 dX8_choose_12 (by decide) ⟨fun q9 => ?_, fun q9 => ?_⟩
  · have h := h.1 q9
    exact X.pick [0, 1] rfl h
  · have h := h.2 q9
    refine X.iload_n (pc := 15) (i := 2) 2 dX8_choose_15 rfl rfl ?_
    refine X.bipush (pc := 16) (y := 40) dX8_choose_16 rfl ⟨by decide, by decide⟩ ?_
    refine X.icmp_ge (pc := 18) 77 dX8_choose_18 (by decide) ⟨fun q9 => ?_, fun q9 => ?_⟩
    · have h := h.1 q9
      exact X.pick [0, 1] rfl h
    · have h := h.2 q9
      refine X.aload_n (pc := 21) (i := 0) 0 dX8_choose_21 rfl rfl ?_
      refine X.getR (pc := 22) (b := 1) dX8_choose_22 fl_X8_45 rfl (fs_X8 hW) (fp_X8_0 hW) ?_
      refine X.getR (pc := 25) (b := 2) dX8_choose_25 fl_X8_101 rfl (fs_X3 hW) (fp_X3_0 hW) ?_
      refine X.iload_n (pc := 28) (i := 2) 2 dX8_choose_28 rfl rfl ?_
      obtain ⟨c1, h⟩ := h
      refine X.aaload (pc := 29) dX8_choose_29 (fa_X3_0 hW) (Or.inl rfl) c1 (fe_rules hW c1) ?_
      refine X.astore_n (pc := 30) (i := 3) (ls' := [(3, vR (7 + 5 * (Int.toNat x2))), (0, vR 249), (1, vI x1), (2, vI x2)]) dX8_choose_30 rfl (by decide) rfl ?_
      refine X.aload_n (pc := 31) (i := 3) 0 dX8_choose_31 rfl rfl ?_
      refine X.getI (pc := 32) dX8_choose_32 fl_X8_126 rfl (fs_X7 hW (mk_rules c1)) ?_
      refine X.aload_n (pc := 35) (i := 0) 1 dX8_choose_35 rfl rfl ?_
      refine X.getI (pc := 36) dX8_choose_36 fl_X8_24 rfl (fs_X8 hW) ?_
      refine X.icmp_ne (pc := 39) 71 dX8_choose_39 (by decide) ⟨fun q9 => ?_, fun q9 => ?_⟩
      · have h := h.1 q9
        exact X.pick [1, 2, 3] rfl h
      · have h := h.2 q9
        refine X.aload_n (pc := 42) (i := 0) 1 dX8_choose_42 rfl rfl ?_
        refine X.getR (pc := 43) (b := 207) dX8_choose_43 fl_X8_49 rfl (fs_X8 hW) (fp_X8_1 hW) ?_
        refine X.aload_n (pc := 46) (i := 3) 0 dX8_choose_46 rfl rfl ?_
        refine X.aload_n (pc := 47) (i := 0) 1 dX8_choose_47 rfl rfl ?_
        refine X.getI (pc := 48) dX8_choose_48 fl_X8_33 rfl (fs_X8 hW) ?_
        refine X.aload_n (pc := 51) (i := 0) 1 dX8_choose_51 rfl rfl ?_
        refine X.getI (pc := 52) dX8_choose_52 fl_X8_36 rfl (fs_X8 hW) ?_
        refine X.pick [1, 2, 3] rfl ?_
        exact X.callV (pc := 55) (vs := [vR (7 + 5 * (Int.toNat x2)), vI ((μ) 249 8), vI ((μ) 249 9)]) (st := []) dX8_choose_55 rfl okM_X5_lay rfl lk_X8_57 inst_X5_lay sel_X5_lay (fs_X5 hW) rfl ⟨⟨by decide, by decide⟩, ⟨by decide, by decide⟩, Nat.le_of_ble_eq_true rfl⟩ (Nat.le_of_ble_eq_true rfl) h

theorem g_X8_choose_58 {sh : List (Nat × Nat)} {ν : Nat → Nat → Option Nat} {μ : Nat → Nat → Int} {f s : Nat} {Q : xQ} (hW : WF sh ν f s) {x1 : Int} {x2 : Int} {y0 : Int}
    (h : ((y0 = 0 → X mX8_choose 71 [(0, vR 249), (1, vI x1), (2, vI x2)] [] sh (ν) (μ) 0 0 Q) ∧ (y0 ≠ 0 → (0 ≤ x1 ∧ x1 < (40 : Nat)) ∧ X mX8_choose 71 [(0, vR 249), (1, vI (w32 (x1 + 1))), (2, vI x2)] [] sh (ν) (up μ 258 (Int.toNat x1) x2) 0 0 Q))) :
    X mX8_choose 58 [(0, vR 249), (1, vI x1), (2, vI x2)] [vI y0] sh ν μ 0 0 Q := by
  refine X.if_eq (pc := 58) 71 dX8_choose_58 (by decide) ⟨fun q9 => ?_, fun q9 => ?_⟩
  · have h := h.1 q9
    exact h
  · have h := h.2 q9
    refine X.aload_n (pc := 61) (i := 0) 0 dX8_choose_61 rfl rfl ?_
    refine X.getR (pc := 62) (b := 258) dX8_choose_62 fl_X8_16 rfl (fs_X8 hW) (fp_X8_3 hW) ?_
    refine X.iload_n (pc := 65) (i := 1) 1 dX8_choose_65 rfl rfl ?_
    refine X.iload_n (pc := 66) (i := 2) 2 dX8_choose_66 rfl rfl ?_
    obtain ⟨c1, h⟩ := h
    refine X.iastore (pc := 67) dX8_choose_67 (fa_X8_3 hW) c1 ?_
    refine X.iinc (pc := 68) (i := 1) (ls' := [(1, vI (w32 (x1 + 1))), (0, vR 249), (2, vI x2)]) 1 dX8_choose_68 rfl (by decide) rfl ?_
    exact X.pick [1, 0, 2] rfl h

theorem g_X8_choose_71 {sh : List (Nat × Nat)} {ν : Nat → Nat → Option Nat} {μ : Nat → Nat → Int} {f s : Nat} {Q : xQ} (hW : WF sh ν f s) {x1 : Int} {x2 : Int}
    (h : X mX8_choose 4 [(0, vR 249), (1, vI x1), (2, vI (w32 (x2 + 1)))] [] sh (ν) (μ) 0 0 Q) :
    X mX8_choose 71 [(0, vR 249), (1, vI x1), (2, vI x2)] [] sh ν μ 0 0 Q := by
  refine X.iinc (pc := 71) (i := 2) (ls' := [(2, vI (w32 (x2 + 1))), (0, vR 249), (1, vI x1)]) 2 dX8_choose_71 rfl (by decide) rfl ?_
  refine X.goto (pc := 74) (tgt := 4) dX8_choose_74 (by decide) ?_
  exact X.pick [1, 2, 0] rfl h

theorem g_X8_choose_77 {sh : List (Nat × Nat)} {ν : Nat → Nat → Option Nat} {μ : Nat → Nat → Int} {f s : Nat} {Q : xQ} (hW : WF sh ν f s) {x1 : Int}
    (h : ((x1 ≠ 0 → (x1 ≠ 0) ∧ (0 ≤ (w32 (Int.tmod (xand (xushr (w32 ((w32 (((μ) 249 10) * 1103515245)) + 12345)) 16) 32767) x1)) ∧ (w32 (Int.tmod (xand (xushr (w32 ((w32 (((μ) 249 10) * 1103515245)) + 12345)) 16) 32767) x1)) < (40 : Nat)) ∧ Q (some (vI ((μ) 258 (Int.toNat (w32 (Int.tmod (xand (xushr (w32 ((w32 (((μ) 249 10) * 1103515245)) + 12345)) 16) 32767) x1)))))) sh (ν) (μ)) ∧ (x1 = 0 → Q (some (vI (-9))) sh (ν) (μ)))) :
    X mX8_choose 77 [(0, vR 249), (1, vI x1)] [] sh ν μ 0 0 Q := by
  refine X.iload_n (pc := 77) (i := 1) 1 dX8_choose_77 rfl rfl ?_
  refine X.if_ne (pc := 78) 86 dX8_choose_78 (by decide) ⟨fun q9 => ?_, fun q9 => ?_⟩
  · have h := h.1 q9
    refine X.aload_n (pc := 86) (i := 0) 0 dX8_choose_86 rfl rfl ?_
    refine X.getR (pc := 87) (b := 258) dX8_choose_87 fl_X8_16 rfl (fs_X8 hW) (fp_X8_3 hW) ?_
    refine X.aload_n (pc := 90) (i := 0) 0 dX8_choose_90 rfl rfl ?_
    refine X.getI (pc := 91) dX8_choose_91 fl_X8_39 rfl (fs_X8 hW) ?_
    refine X.ldc (pc := 94) (y := 1103515245) dX8_choose_94 kc_X8_127 rfl ⟨by decide, by decide⟩ ?_
    refine X.imul (pc := 96) dX8_choose_96 ?_
    refine X.sipush (pc := 97) (y := 12345) dX8_choose_97 rfl ⟨by decide, by decide⟩ ?_
    refine X.iadd (pc := 100) dX8_choose_100 ?_
    refine X.bipush (pc := 101) (y := 16) dX8_choose_101 rfl ⟨by decide, by decide⟩ ?_
    refine X.iushr (pc := 103) dX8_choose_103 ?_
    refine X.sipush (pc := 104) (y := 32767) dX8_choose_104 rfl ⟨by decide, by decide⟩ ?_
    refine X.iand (pc := 107) dX8_choose_107 ?_
    refine X.iload_n (pc := 108) (i := 1) 1 dX8_choose_108 rfl rfl ?_
    obtain ⟨c1, h⟩ := h
    refine X.irem (pc := 109) dX8_choose_109 c1 ?_
    obtain ⟨c2, h⟩ := h
    refine X.iaload (pc := 110) dX8_choose_110 (fa_X8_3 hW) c2 ?_
    exact X.iret (pc := 111) dX8_choose_111 rfl (Nat.le_of_ble_eq_true rfl) (Nat.le_of_ble_eq_true rfl) h
  · have h := h.2 q9
    refine X.bipush (pc := 81) (y := -9) dX8_choose_81 rfl ⟨by decide, by decide⟩ ?_
    refine X.goto (pc := 83) (tgt := 111) dX8_choose_83 (by decide) ?_
    exact X.iret (pc := 111) dX8_choose_111 rfl (Nat.le_of_ble_eq_true rfl) (Nat.le_of_ble_eq_true rfl) h

theorem g_X9_fill_0 {sh : List (Nat × Nat)} {ν : Nat → Nat → Option Nat} {μ : Nat → Nat → Int} {f s : Nat} {Q : xQ} (hW : WF sh ν f s) {x1 : Int} {x2 : Int} {x3 : Int}
    (h : (((0 ≤ x1 ∧ x1 ≤ 7) → ((¬ (0 ≤ x2 ∧ x2 ≤ 25) → Q (some (vI (-2))) sh (ν) (μ)) ∧ ((0 ≤ x2 ∧ x2 ≤ 25) → (((0 ≤ x3 ∧ x3 ≤ 99) → ((¬ (40 ≤ (μ) 1 2) → X mX3_addFill 0 [(0, vR 1), (1, vI x1), (2, vI x2), (3, vI x3)] [] sh (ν) (up (up μ 213 13 1) 231 13 1) 0 0 (fun v sh' ν' μ' => X mX9_fill 56 [] (v.toList ++ []) sh' ν' μ' 0 0 Q)) ∧ ((40 ≤ (μ) 1 2) → Q (some (vI (-4))) sh (ν) (μ)))) ∧ (¬ (0 ≤ x3 ∧ x3 ≤ 99) → Q (some (vI (-2))) sh (ν) (μ)))))) ∧ (¬ (0 ≤ x1 ∧ x1 ≤ 7) → Q (some (vI (-1))) sh (ν) (μ)))) :
    X mX9_fill 0 [(0, vR 0), (1, vI x1), (2, vI x2), (3, vI x3)] [] sh ν μ 0 0 Q := by
  refine X.iload_n (pc := 0) (i := 1) 1 dX9_fill_0 rfl rfl ?_
  refine X.callS (pc := 1) (vs := [vI x1]) (st := []) dX9_fill_1 rfl okM_X9_isName rfl lk_X9_65 stat_X9_isName ⟨⟨by decide, by decide⟩, ⟨by decide, by decide⟩, Nat.le_of_ble_eq_true rfl⟩ (Nat.le_of_ble_eq_true rfl) (c_X9_isName hW ?_)
  refine X.nrm (pc' := 4) (ls' := [(0, vR 0), (1, vI x1), (2, vI x2), (3, vI x3)]) (st' := [vI (bI (0 ≤ x1 ∧ x1 ≤ 7))]) (k' := 0) (n' := 0) rfl rfl rfl rfl rfl ?_
  refine X.if_ne (pc := 4) 9 dX9_fill_4 (by decide) ⟨fun q9 => ?_, fun q9 => ?_⟩
  · have h := h.1 (bI_ne.mp q9)
    refine X.iload_n (pc := 9) (i := 2) 2 dX9_fill_9 rfl rfl ?_
    refine X.iconst (pc := 10) dX9_fill_10 ⟨by decide, by decide⟩ ?_
    refine X.bipush (pc := 11) (y := 25) dX9_fill_11 rfl ⟨by decide, by decide⟩ ?_
    refine X.callS (pc := 13) (vs := [vI x2, vI 0, vI 25]) (st := []) dX9_fill_13 rfl okM_X9_isWithin rfl lk_X9_69 stat_X9_isWithin ⟨⟨by decide, by decide⟩, ⟨by decide, by decide⟩, Nat.le_of_ble_eq_true rfl⟩ (Nat.le_of_ble_eq_true rfl) (c_X9_isWithin hW ?_)
    refine X.nrm (pc' := 16) (ls' := [(0, vR 0), (1, vI x1), (2, vI x2), (3, vI x3)]) (st' := [vI (bI (0 ≤ x2 ∧ x2 ≤ 25))]) (k' := 0) (n' := 0) rfl rfl rfl rfl rfl ?_
    refine X.if_eq (pc := 16) 26 dX9_fill_16 (by decide) ⟨fun q9 => ?_, fun q9 => ?_⟩
    · have h := h.1 (bI_eq.mp q9)
      refine X.bipush (pc := 26) (y := -2) dX9_fill_26 rfl ⟨by decide, by decide⟩ ?_
      exact X.iret (pc := 28) dX9_fill_28 rfl (Nat.le_of_ble_eq_true rfl) (Nat.le_of_ble_eq_true rfl) h
    · have h := h.2 (bI_ne.mp q9)
      refine X.iload_n (pc := 19) (i := 3) 3 dX9_fill_19 rfl rfl ?_
      refine X.callS (pc := 20) (vs := [vI x3]) (st := []) dX9_fill_20 rfl okM_X9_isCost rfl lk_X9_73 stat_X9_isCost ⟨⟨by decide, by decide⟩, ⟨by decide, by decide⟩, Nat.le_of_ble_eq_true rfl⟩ (Nat.le_of_ble_eq_true rfl) (c_X9_isCost hW ?_)
      refine X.nrm (pc' := 23) (ls' := [(0, vR 0), (1, vI x1), (2, vI x2), (3, vI x3)]) (st' := [vI (bI (0 ≤ x3 ∧ x3 ≤ 99))]) (k' := 0) (n' := 0) rfl rfl rfl rfl rfl ?_
      refine X.if_ne (pc := 23) 29 dX9_fill_23 (by decide) ⟨fun q9 => ?_, fun q9 => ?_⟩
      · have h := h.1 (bI_ne.mp q9)
        refine X.aload_n (pc := 29) (i := 0) 0 dX9_fill_29 rfl rfl ?_
        refine X.getR (pc := 30) (b := 1) dX9_fill_30 fl_X9_12 rfl (fs_X9 hW) (fp_X9_0 hW) ?_
        refine X.callV (pc := 33) (vs := []) (st := []) dX9_fill_33 rfl okM_X3_isFull rfl lk_X9_76 inst_X3_isFull sel_X3_isFull (fs_X3 hW) rfl ⟨⟨by decide, by decide⟩, ⟨by decide, by decide⟩, Nat.le_of_ble_eq_true rfl⟩ (Nat.le_of_ble_eq_true rfl) (c_X3_isFull hW ?_)
        refine X.nrm (pc' := 36) (ls' := [(0, vR 0), (1, vI x1), (2, vI x2), (3, vI x3)]) (st' := [vI (bI (40 ≤ (μ) 1 2))]) (k' := 0) (n' := 0) rfl rfl rfl rfl rfl ?_
        refine X.if_eq (pc := 36) 42 dX9_fill_36 (by decide) ⟨fun q9 => ?_, fun q9 => ?_⟩
        · have h := h.1 (bI_eq.mp q9)
          refine X.aload_n (pc := 42) (i := 0) 0 dX9_fill_42 rfl rfl ?_
          refine X.callV (pc := 43) (vs := []) (st := []) dX9_fill_43 rfl okM_X9_forgetParses rfl lk_X9_80 inst_X9_forgetParses sel_X9_forgetParses (fs_X9 hW) rfl ⟨⟨by decide, by decide⟩, ⟨by decide, by decide⟩, Nat.le_of_ble_eq_true rfl⟩ (Nat.le_of_ble_eq_true rfl) ?_
          refine X.nrm (pc' := 0) (ls' := [(0, vR 0)]) (st' := []) (k' := 0) (n' := 0) rfl rfl rfl rfl rfl ?_
          refine X.aload_n (pc := 0) (i := 0) 0 dX9_forgetParses_0 rfl rfl ?_
          refine X.getR (pc := 1) (b := 213) dX9_forgetParses_1 fl_X9_35 rfl (fs_X9 hW) (fp_X9_3 hW) ?_
          refine X.iconst (pc := 4) dX9_forgetParses_4 ⟨by decide, by decide⟩ ?_
          refine X.putI (pc := 5) dX9_forgetParses_5 fl_X9_185 rfl (fun h9 => by cases h9) (fs_X1 hW mk_free) (Or.inr (Or.inr rfl)) ?_
          refine X.aload_n (pc := 8) (i := 0) 0 dX9_forgetParses_8 rfl rfl ?_
          refine X.getR (pc := 9) (b := 231) dX9_forgetParses_9 fl_X9_39 rfl (fs_X9 hW) (fp_X9_4 hW) ?_
          refine X.iconst (pc := 12) dX9_forgetParses_12 ⟨by decide, by decide⟩ ?_
          refine X.putI (pc := 13) dX9_forgetParses_13 fl_X9_185 rfl (fun h9 => by cases h9) (fs_X1 hW mk_bound) (Or.inr (Or.inr rfl)) ?_
          refine X.vret (pc := 16) dX9_forgetParses_16 rfl (Nat.le_of_ble_eq_true rfl) (Nat.le_of_ble_eq_true rfl) ?_
          refine X.nrm (pc' := 46) (ls' := [(0, vR 0), (1, vI x1), (2, vI x2), (3, vI x3)]) (st' := []) (k' := 0) (n' := 0) rfl rfl rfl rfl rfl ?_
          refine X.aload_n (pc := 46) (i := 0) 0 dX9_fill_46 rfl rfl ?_
          refine X.getR (pc := 47) (b := 1) dX9_fill_47 fl_X9_12 rfl (fs_X9 hW) (fp_X9_0 hW) ?_
          refine X.iload_n (pc := 50) (i := 1) 1 dX9_fill_50 rfl rfl ?_
          refine X.iload_n (pc := 51) (i := 2) 2 dX9_fill_51 rfl rfl ?_
          refine X.iload_n (pc := 52) (i := 3) 3 dX9_fill_52 rfl rfl ?_
          refine X.pick [] rfl ?_
          exact X.callV (pc := 53) (vs := [vI x1, vI x2, vI x3]) (st := []) dX9_fill_53 rfl okM_X3_addFill rfl lk_X9_83 inst_X3_addFill sel_X3_addFill (fs_X3 hW) rfl ⟨⟨by decide, by decide⟩, ⟨by decide, by decide⟩, Nat.le_of_ble_eq_true rfl⟩ (Nat.le_of_ble_eq_true rfl) h
        · have h := h.2 (bI_ne.mp q9)
          refine X.bipush (pc := 39) (y := -4) dX9_fill_39 rfl ⟨by decide, by decide⟩ ?_
          exact X.iret (pc := 41) dX9_fill_41 rfl (Nat.le_of_ble_eq_true rfl) (Nat.le_of_ble_eq_true rfl) h
      · have h := h.2 (bI_eq.mp q9)
        refine X.bipush (pc := 26) (y := -2) dX9_fill_26 rfl ⟨by decide, by decide⟩ ?_
        exact X.iret (pc := 28) dX9_fill_28 rfl (Nat.le_of_ble_eq_true rfl) (Nat.le_of_ble_eq_true rfl) h
  · have h := h.2 (bI_eq.mp q9)
    refine X.iconst (pc := 7) dX9_fill_7 ⟨by decide, by decide⟩ ?_
    exact X.iret (pc := 8) dX9_fill_8 rfl (Nat.le_of_ble_eq_true rfl) (Nat.le_of_ble_eq_true rfl) h

theorem g_X9_fill_56 {sh : List (Nat × Nat)} {ν : Nat → Nat → Option Nat} {μ : Nat → Nat → Int} {f s : Nat} {Q : xQ} (hW : WF sh ν f s) {y0 : Int}
    (h : Q (some (vI y0)) sh (ν) (μ)) :
    X mX9_fill 56 [] [vI y0] sh ν μ 0 0 Q := by
  exact X.iret (pc := 56) dX9_fill_56 rfl (Nat.le_of_ble_eq_true rfl) (Nat.le_of_ble_eq_true rfl) h

theorem g_X9_part_0 {sh : List (Nat × Nat)} {ν : Nat → Nat → Option Nat} {μ : Nat → Nat → Int} {f s : Nat} {Q : xQ} (hW : WF sh ν f s) {x1 : Int} {x2 : Int} {x3 : Int}
    (h : (((0 ≤ x1 ∧ x1 ≤ 7) → ((x3 = 0 → X mX9_part 22 [(0, vR 0), (1, vI x1), (2, vI x2), (3, vI x3)] [vI 20, vI 1, vI x2] sh (ν) (μ) 0 0 Q) ∧ (x3 ≠ 0 → X mX9_part 22 [(0, vR 0), (1, vI x1), (2, vI x2), (3, vI x3)] [vI 9, vI 1, vI x2] sh (ν) (μ) 0 0 Q))) ∧ (¬ (0 ≤ x1 ∧ x1 ≤ 7) → Q (some (vI (-1))) sh (ν) (μ)))) :
    X mX9_part 0 [(0, vR 0), (1, vI x1), (2, vI x2), (3, vI x3)] [] sh ν μ 0 0 Q := by
  refine X.iload_n (pc := 0) (i := 1) 1 dX9_part_0 rfl rfl ?_
  refine X.callS (pc := 1) (vs := [vI x1]) (st := []) dX9_part_1 rfl okM_X9_isName rfl lk_X9_65 stat_X9_isName ⟨⟨by decide, by decide⟩, ⟨by decide, by decide⟩, Nat.le_of_ble_eq_true rfl⟩ (Nat.le_of_ble_eq_true rfl) (c_X9_isName hW ?_)
  refine X.nrm (pc' := 4) (ls' := [(0, vR 0), (1, vI x1), (2, vI x2), (3, vI x3)]) (st' := [vI (bI (0 ≤ x1 ∧ x1 ≤ 7))]) (k' := 0) (n' := 0) rfl rfl rfl rfl rfl ?_
  refine X.if_ne (pc := 4) 9 dX9_part_4 (by decide) ⟨fun q9 => ?_, fun q9 => ?_⟩
  · have h := h.1 (bI_ne.mp q9)
    refine X.iload_n (pc := 9) (i := 2) 2 dX9_part_9 rfl rfl ?_
    refine X.iconst (pc := 10) dX9_part_10 ⟨by decide, by decide⟩ ?_
    refine X.iload_n (pc := 11) (i := 3) 3 dX9_part_11 rfl rfl ?_
    refine X.if_eq (pc := 12) 20 dX9_part_12 (by decide) ⟨fun q9 => ?_, fun q9 => ?_⟩
    · have h := h.1 q9
      refine X.bipush (pc := 20) (y := 20) dX9_part_20 rfl ⟨by decide, by decide⟩ ?_
      exact h
    · have h := h.2 q9
      refine X.bipush (pc := 15) (y := 9) dX9_part_15 rfl ⟨by decide, by decide⟩ ?_
      refine X.goto (pc := 17) (tgt := 22) dX9_part_17 (by decide) ?_
      exact h
  · have h := h.2 (bI_eq.mp q9)
    refine X.iconst (pc := 7) dX9_part_7 ⟨by decide, by decide⟩ ?_
    exact X.iret (pc := 8) dX9_part_8 rfl (Nat.le_of_ble_eq_true rfl) (Nat.le_of_ble_eq_true rfl) h

theorem g_X9_part_22 {sh : List (Nat × Nat)} {ν : Nat → Nat → Option Nat} {μ : Nat → Nat → Int} {f s : Nat} {Q : xQ} (hW : WF sh ν f s) {x1 : Int} {x2 : Int} {x3 : Int} {y0 : Int} {y1 : Int} {y2 : Int}
    (h : (((y1 ≤ y0 ∧ y0 ≤ y2) → ((((μ) 3 3) < 6 → ((x3 = 0 → X mX9_part 66 [(0, vR 0), (2, vI x2), (3, vI x3)] [vI x2, vI x1, vR 3] sh (ν) (μ) 0 0 Q) ∧ (x3 ≠ 0 → X mX9_part 66 [(0, vR 0), (2, vI x2), (3, vI x3)] [vI 0, vI x1, vR 3] sh (ν) (μ) 0 0 Q))) ∧ (6 ≤ ((μ) 3 3) → Q (some (vI (-4))) sh (ν) (μ)))) ∧ (¬ (y1 ≤ y0 ∧ y0 ≤ y2) → Q (some (vI (-2))) sh (ν) (μ)))) :
    X mX9_part 22 [(0, vR 0), (1, vI x1), (2, vI x2), (3, vI x3)] [vI y2, vI y1, vI y0] sh ν μ 0 0 Q := by
  refine X.callS (pc := 22) (vs := [vI y0, vI y1, vI y2]) (st := []) dX9_part_22 rfl okM_X9_isWithin rfl lk_X9_69 stat_X9_isWithin ⟨⟨by decide, by decide⟩, ⟨by decide, by decide⟩, Nat.le_of_ble_eq_true rfl⟩ (Nat.le_of_ble_eq_true rfl) (c_X9_isWithin hW ?_)
  refine X.nrm (pc' := 25) (ls' := [(0, vR 0), (1, vI x1), (2, vI x2), (3, vI x3)]) (st' := [vI (bI (y1 ≤ y0 ∧ y0 ≤ y2))]) (k' := 0) (n' := 0) rfl rfl rfl rfl rfl ?_
  refine X.if_ne (pc := 25) 31 dX9_part_25 (by decide) ⟨fun q9 => ?_, fun q9 => ?_⟩
  · have h := h.1 (bI_ne.mp q9)
    refine X.aload_n (pc := 31) (i := 0) 0 dX9_part_31 rfl rfl ?_
    refine X.getR (pc := 32) (b := 1) dX9_part_32 fl_X9_12 rfl (fs_X9 hW) (fp_X9_0 hW) ?_
    refine X.getR (pc := 35) (b := 3) dX9_part_35 fl_X9_87 rfl (fs_X3 hW) (fp_X3_1 hW) ?_
    refine X.getI (pc := 38) dX9_part_38 fl_X9_91 rfl (fs_X6 hW mk_coll) ?_
    refine X.bipush (pc := 41) (y := 6) dX9_part_41 rfl ⟨by decide, by decide⟩ ?_
    refine X.icmp_lt (pc := 43) 49 dX9_part_43 (by decide) ⟨fun q9 => ?_, fun q9 => ?_⟩
    · have h := h.1 q9
      refine X.aload_n (pc := 49) (i := 0) 0 dX9_part_49 rfl rfl ?_
      refine X.getR (pc := 50) (b := 1) dX9_part_50 fl_X9_12 rfl (fs_X9 hW) (fp_X9_0 hW) ?_
      refine X.getR (pc := 53) (b := 3) dX9_part_53 fl_X9_87 rfl (fs_X3 hW) (fp_X3_1 hW) ?_
      refine X.iload_n (pc := 56) (i := 1) 1 dX9_part_56 rfl rfl ?_
      refine X.iload_n (pc := 57) (i := 3) 3 dX9_part_57 rfl rfl ?_
      refine X.if_eq (pc := 58) 65 dX9_part_58 (by decide) ⟨fun q9 => ?_, fun q9 => ?_⟩
      · have h := h.1 q9
        refine X.iload_n (pc := 65) (i := 2) 2 dX9_part_65 rfl rfl ?_
        exact X.pick [0, 2, 3] rfl h
      · have h := h.2 q9
        refine X.iconst (pc := 61) dX9_part_61 ⟨by decide, by decide⟩ ?_
        refine X.goto (pc := 62) (tgt := 66) dX9_part_62 (by decide) ?_
        exact X.pick [0, 2, 3] rfl h
    · have h := h.2 q9
      refine X.bipush (pc := 46) (y := -4) dX9_part_46 rfl ⟨by decide, by decide⟩ ?_
      exact X.iret (pc := 48) dX9_part_48 rfl (Nat.le_of_ble_eq_true rfl) (Nat.le_of_ble_eq_true rfl) h
  · have h := h.2 (bI_eq.mp q9)
    refine X.bipush (pc := 28) (y := -2) dX9_part_28 rfl ⟨by decide, by decide⟩ ?_
    exact X.iret (pc := 30) dX9_part_30 rfl (Nat.le_of_ble_eq_true rfl) (Nat.le_of_ble_eq_true rfl) h

theorem g_X9_part_66 {sh : List (Nat × Nat)} {ν : Nat → Nat → Option Nat} {μ : Nat → Nat → Int} {f s : Nat} {Q : xQ} (hW : WF sh ν f s) {x2 : Int} {x3 : Int} {q0 : Nat} (hq0 : isParts q0) {y1 : Int} {y2 : Int}
    (h : ((x3 = 0 → X mX9_part 75 [(0, vR 0)] [vI 0, vI y2, vI y1, vR q0] sh (ν) (μ) 0 0 Q) ∧ (x3 ≠ 0 → X mX9_part 75 [(0, vR 0)] [vI x2, vI y2, vI y1, vR q0] sh (ν) (μ) 0 0 Q))) :
    X mX9_part 66 [(0, vR 0), (2, vI x2), (3, vI x3)] [vI y2, vI y1, vR q0] sh ν μ 0 0 Q := by
  refine X.iload_n (pc := 66) (i := 3) 2 dX9_part_66 rfl rfl ?_
  refine X.if_eq (pc := 67) 74 dX9_part_67 (by decide) ⟨fun q9 => ?_, fun q9 => ?_⟩
  · have h := h.1 q9
    refine X.iconst (pc := 74) dX9_part_74 ⟨by decide, by decide⟩ ?_
    exact X.pick [0] rfl h
  · have h := h.2 q9
    refine X.iload_n (pc := 70) (i := 2) 1 dX9_part_70 rfl rfl ?_
    refine X.goto (pc := 71) (tgt := 75) dX9_part_71 (by decide) ?_
    exact X.pick [0] rfl h

theorem g_X9_part_75 {sh : List (Nat × Nat)} {ν : Nat → Nat → Option Nat} {μ : Nat → Nat → Int} {f s : Nat} {Q : xQ} (hW : WF sh ν f s) {q0 : Nat} (hq0 : isParts q0) {y1 : Int} {y2 : Int} {y3 : Int}
    (h : X mX6_add 0 [(0, vR q0), (1, vI y1), (2, vI y2), (3, vI y3)] [] sh (ν) (μ) 0 0 (fun v sh' ν' μ' => X mX9_part 78 [(0, vR 0)] (v.toList ++ []) sh' ν' μ' 0 0 Q)) :
    X mX9_part 75 [(0, vR 0)] [vI y3, vI y2, vI y1, vR q0] sh ν μ 0 0 Q := by
  exact X.callV (pc := 75) (vs := [vI y1, vI y2, vI y3]) (st := []) dX9_part_75 rfl okM_X6_add rfl lk_X9_96 inst_X6_add sel_X6_add (fs_X6 hW hq0) rfl ⟨⟨by decide, by decide⟩, ⟨by decide, by decide⟩, Nat.le_of_ble_eq_true rfl⟩ (Nat.le_of_ble_eq_true rfl) h

theorem g_X9_part_78 {sh : List (Nat × Nat)} {ν : Nat → Nat → Option Nat} {μ : Nat → Nat → Int} {f s : Nat} {Q : xQ} (hW : WF sh ν f s) 
    (h : Q (some (vI ((μ) 3 3))) sh (ν) (μ)) :
    X mX9_part 78 [(0, vR 0)] [] sh ν μ 0 0 Q := by
  refine X.aload_n (pc := 78) (i := 0) 0 dX9_part_78 rfl rfl ?_
  refine X.getR (pc := 79) (b := 1) dX9_part_79 fl_X9_12 rfl (fs_X9 hW) (fp_X9_0 hW) ?_
  refine X.getR (pc := 82) (b := 3) dX9_part_82 fl_X9_87 rfl (fs_X3 hW) (fp_X3_1 hW) ?_
  refine X.getI (pc := 85) dX9_part_85 fl_X9_91 rfl (fs_X6 hW mk_coll) ?_
  exact X.iret (pc := 88) dX9_part_88 rfl (Nat.le_of_ble_eq_true rfl) (Nat.le_of_ble_eq_true rfl) h

theorem g_X9_split_0 {sh : List (Nat × Nat)} {ν : Nat → Nat → Option Nat} {μ : Nat → Nat → Int} {f s : Nat} {Q : xQ} (hW : WF sh ν f s) {x1 : Int} {x2 : Int} {x3 : Int}
    (h : (((0 ≤ x1 ∧ x1 ≤ 7) → (((0 ≤ x3 ∧ x3 ≤ 99) → ((((μ) 3 3) ≠ 0 → ((¬ (40 ≤ (μ) 1 2) → X mX3_addSplit 0 [(0, vR 1), (1, vI x1), (2, vI x2), (3, vI x3)] [] sh (ν) (up (up μ 213 13 1) 231 13 1) 0 0 (fun v sh' ν' μ' => X mX9_split 62 [] (v.toList ++ []) sh' ν' μ' 0 0 Q)) ∧ ((40 ≤ (μ) 1 2) → Q (some (vI (-4))) sh (ν) (μ)))) ∧ (((μ) 3 3) = 0 → Q (some (vI (-3))) sh (ν) (μ)))) ∧ (¬ (0 ≤ x3 ∧ x3 ≤ 99) → Q (some (vI (-2))) sh (ν) (μ)))) ∧ (¬ (0 ≤ x1 ∧ x1 ≤ 7) → Q (some (vI (-1))) sh (ν) (μ)))) :
    X mX9_split 0 [(0, vR 0), (1, vI x1), (2, vI x2), (3, vI x3)] [] sh ν μ 0 0 Q := by
  refine X.iload_n (pc := 0) (i := 1) 1 dX9_split_0 rfl rfl ?_
  refine X.callS (pc := 1) (vs := [vI x1]) (st := []) dX9_split_1 rfl okM_X9_isName rfl lk_X9_65 stat_X9_isName ⟨⟨by decide, by decide⟩, ⟨by decide, by decide⟩, Nat.le_of_ble_eq_true rfl⟩ (Nat.le_of_ble_eq_true rfl) (c_X9_isName hW ?_)
  refine X.nrm (pc' := 4) (ls' := [(0, vR 0), (1, vI x1), (2, vI x2), (3, vI x3)]) (st' := [vI (bI (0 ≤ x1 ∧ x1 ≤ 7))]) (k' := 0) (n' := 0) rfl rfl rfl rfl rfl ?_
  refine X.if_ne (pc := 4) 9 dX9_split_4 (by decide) ⟨fun q9 => ?_, fun q9 => ?_⟩
  · have h := h.1 (bI_ne.mp q9)
    refine X.iload_n (pc := 9) (i := 3) 3 dX9_split_9 rfl rfl ?_
    refine X.callS (pc := 10) (vs := [vI x3]) (st := []) dX9_split_10 rfl okM_X9_isCost rfl lk_X9_73 stat_X9_isCost ⟨⟨by decide, by decide⟩, ⟨by decide, by decide⟩, Nat.le_of_ble_eq_true rfl⟩ (Nat.le_of_ble_eq_true rfl) (c_X9_isCost hW ?_)
    refine X.nrm (pc' := 13) (ls' := [(0, vR 0), (1, vI x1), (2, vI x2), (3, vI x3)]) (st' := [vI (bI (0 ≤ x3 ∧ x3 ≤ 99))]) (k' := 0) (n' := 0) rfl rfl rfl rfl rfl ?_
    refine X.if_ne (pc := 13) 19 dX9_split_13 (by decide) ⟨fun q9 => ?_, fun q9 => ?_⟩
    · have h := h.1 (bI_ne.mp q9)
      refine X.aload_n (pc := 19) (i := 0) 0 dX9_split_19 rfl rfl ?_
      refine X.getR (pc := 20) (b := 1) dX9_split_20 fl_X9_12 rfl (fs_X9 hW) (fp_X9_0 hW) ?_
      refine X.getR (pc := 23) (b := 3) dX9_split_23 fl_X9_87 rfl (fs_X3 hW) (fp_X3_1 hW) ?_
      refine X.getI (pc := 26) dX9_split_26 fl_X9_91 rfl (fs_X6 hW mk_coll) ?_
      refine X.if_ne (pc := 29) 35 dX9_split_29 (by decide) ⟨fun q9 => ?_, fun q9 => ?_⟩
      · have h := h.1 q9
        refine X.aload_n (pc := 35) (i := 0) 0 dX9_split_35 rfl rfl ?_
        refine X.getR (pc := 36) (b := 1) dX9_split_36 fl_X9_12 rfl (fs_X9 hW) (fp_X9_0 hW) ?_
        refine X.callV (pc := 39) (vs := []) (st := []) dX9_split_39 rfl okM_X3_isFull rfl lk_X9_76 inst_X3_isFull sel_X3_isFull (fs_X3 hW) rfl ⟨⟨by decide, by decide⟩, ⟨by decide, by decide⟩, Nat.le_of_ble_eq_true rfl⟩ (Nat.le_of_ble_eq_true rfl) (c_X3_isFull hW ?_)
        refine X.nrm (pc' := 42) (ls' := [(0, vR 0), (1, vI x1), (2, vI x2), (3, vI x3)]) (st' := [vI (bI (40 ≤ (μ) 1 2))]) (k' := 0) (n' := 0) rfl rfl rfl rfl rfl ?_
        refine X.if_eq (pc := 42) 48 dX9_split_42 (by decide) ⟨fun q9 => ?_, fun q9 => ?_⟩
        · have h := h.1 (bI_eq.mp q9)
          refine X.aload_n (pc := 48) (i := 0) 0 dX9_split_48 rfl rfl ?_
          refine X.callV (pc := 49) (vs := []) (st := []) dX9_split_49 rfl okM_X9_forgetParses rfl lk_X9_80 inst_X9_forgetParses sel_X9_forgetParses (fs_X9 hW) rfl ⟨⟨by decide, by decide⟩, ⟨by decide, by decide⟩, Nat.le_of_ble_eq_true rfl⟩ (Nat.le_of_ble_eq_true rfl) ?_
          refine X.nrm (pc' := 0) (ls' := [(0, vR 0)]) (st' := []) (k' := 0) (n' := 0) rfl rfl rfl rfl rfl ?_
          refine X.aload_n (pc := 0) (i := 0) 0 dX9_forgetParses_0 rfl rfl ?_
          refine X.getR (pc := 1) (b := 213) dX9_forgetParses_1 fl_X9_35 rfl (fs_X9 hW) (fp_X9_3 hW) ?_
          refine X.iconst (pc := 4) dX9_forgetParses_4 ⟨by decide, by decide⟩ ?_
          refine X.putI (pc := 5) dX9_forgetParses_5 fl_X9_185 rfl (fun h9 => by cases h9) (fs_X1 hW mk_free) (Or.inr (Or.inr rfl)) ?_
          refine X.aload_n (pc := 8) (i := 0) 0 dX9_forgetParses_8 rfl rfl ?_
          refine X.getR (pc := 9) (b := 231) dX9_forgetParses_9 fl_X9_39 rfl (fs_X9 hW) (fp_X9_4 hW) ?_
          refine X.iconst (pc := 12) dX9_forgetParses_12 ⟨by decide, by decide⟩ ?_
          refine X.putI (pc := 13) dX9_forgetParses_13 fl_X9_185 rfl (fun h9 => by cases h9) (fs_X1 hW mk_bound) (Or.inr (Or.inr rfl)) ?_
          refine X.vret (pc := 16) dX9_forgetParses_16 rfl (Nat.le_of_ble_eq_true rfl) (Nat.le_of_ble_eq_true rfl) ?_
          refine X.nrm (pc' := 52) (ls' := [(0, vR 0), (1, vI x1), (2, vI x2), (3, vI x3)]) (st' := []) (k' := 0) (n' := 0) rfl rfl rfl rfl rfl ?_
          refine X.aload_n (pc := 52) (i := 0) 0 dX9_split_52 rfl rfl ?_
          refine X.getR (pc := 53) (b := 1) dX9_split_53 fl_X9_12 rfl (fs_X9 hW) (fp_X9_0 hW) ?_
          refine X.iload_n (pc := 56) (i := 1) 1 dX9_split_56 rfl rfl ?_
          refine X.iload_n (pc := 57) (i := 2) 2 dX9_split_57 rfl rfl ?_
          refine X.iload_n (pc := 58) (i := 3) 3 dX9_split_58 rfl rfl ?_
          refine X.pick [] rfl ?_
          exact X.callV (pc := 59) (vs := [vI x1, vI x2, vI x3]) (st := []) dX9_split_59 rfl okM_X3_addSplit rfl lk_X9_100 inst_X3_addSplit sel_X3_addSplit (fs_X3 hW) rfl ⟨⟨by decide, by decide⟩, ⟨by decide, by decide⟩, Nat.le_of_ble_eq_true rfl⟩ (Nat.le_of_ble_eq_true rfl) h
        · have h := h.2 (bI_ne.mp q9)
          refine X.bipush (pc := 45) (y := -4) dX9_split_45 rfl ⟨by decide, by decide⟩ ?_
          exact X.iret (pc := 47) dX9_split_47 rfl (Nat.le_of_ble_eq_true rfl) (Nat.le_of_ble_eq_true rfl) h
      · have h := h.2 q9
        refine X.bipush (pc := 32) (y := -3) dX9_split_32 rfl ⟨by decide, by decide⟩ ?_
        exact X.iret (pc := 34) dX9_split_34 rfl (Nat.le_of_ble_eq_true rfl) (Nat.le_of_ble_eq_true rfl) h
    · have h := h.2 (bI_eq.mp q9)
      refine X.bipush (pc := 16) (y := -2) dX9_split_16 rfl ⟨by decide, by decide⟩ ?_
      exact X.iret (pc := 18) dX9_split_18 rfl (Nat.le_of_ble_eq_true rfl) (Nat.le_of_ble_eq_true rfl) h
  · have h := h.2 (bI_eq.mp q9)
    refine X.iconst (pc := 7) dX9_split_7 ⟨by decide, by decide⟩ ?_
    exact X.iret (pc := 8) dX9_split_8 rfl (Nat.le_of_ble_eq_true rfl) (Nat.le_of_ble_eq_true rfl) h

theorem g_X9_split_62 {sh : List (Nat × Nat)} {ν : Nat → Nat → Option Nat} {μ : Nat → Nat → Int} {f s : Nat} {Q : xQ} (hW : WF sh ν f s) {y0 : Int}
    (h : Q (some (vI y0)) sh (ν) (μ)) :
    X mX9_split 62 [] [vI y0] sh ν μ 0 0 Q := by
  exact X.iret (pc := 62) dX9_split_62 rfl (Nat.le_of_ble_eq_true rfl) (Nat.le_of_ble_eq_true rfl) h

theorem g_X9_repeat_0 {sh : List (Nat × Nat)} {ν : Nat → Nat → Option Nat} {μ : Nat → Nat → Int} {f s : Nat} {Q : xQ} (hW : WF sh ν f s) {x1 : Int} {x2 : Int} {x3 : Int} {x4 : Int} {x5 : Int}
    (h : ((¬ (0 ≤ x1 ∧ x1 ≤ 7) → Q (some (vI (-1))) sh (ν) (μ)) ∧ ((0 ≤ x1 ∧ x1 ≤ 7) → (((0 ≤ x2 ∧ x2 ≤ 7) → ((¬ (1 ≤ x3 ∧ x3 ≤ 20) → Q (some (vI (-2))) sh (ν) (μ)) ∧ ((1 ≤ x3 ∧ x3 ≤ 20) → (((0 ≤ x5 ∧ x5 ≤ 99) → ((¬ (40 ≤ (μ) 1 2) → X mX3_addRepeat 0 [(0, vR 1), (1, vI x1), (2, vI x2), (3, vI x3), (4, vI x4), (5, vI x5)] [] sh (ν) (up (up μ 213 13 1) 231 13 1) 0 0 (fun v sh' ν' μ' => X mX9_repeat 68 [] (v.toList ++ []) sh' ν' μ' 0 0 Q)) ∧ ((40 ≤ (μ) 1 2) → Q (some (vI (-4))) sh (ν) (μ)))) ∧ (¬ (0 ≤ x5 ∧ x5 ≤ 99) → Q (some (vI (-2))) sh (ν) (μ)))))) ∧ (¬ (0 ≤ x2 ∧ x2 ≤ 7) → Q (some (vI (-1))) sh (ν) (μ)))))) :
    X mX9_repeat 0 [(0, vR 0), (1, vI x1), (2, vI x2), (3, vI x3), (4, vI x4), (5, vI x5)] [] sh ν μ 0 0 Q := by
  refine X.iload_n (pc := 0) (i := 1) 1 dX9_repeat_0 rfl rfl ?_
  refine X.callS (pc := 1) (vs := [vI x1]) (st := []) dX9_repeat_1 rfl okM_X9_isName rfl lk_X9_65 stat_X9_isName ⟨⟨by decide, by decide⟩, ⟨by decide, by decide⟩, Nat.le_of_ble_eq_true rfl⟩ (Nat.le_of_ble_eq_true rfl) (c_X9_isName hW ?_)
  refine X.nrm (pc' := 4) (ls' := [(0, vR 0), (1, vI x1), (2, vI x2), (3, vI x3), (4, vI x4), (5, vI x5)]) (st' := [vI (bI (0 ≤ x1 ∧ x1 ≤ 7))]) (k' := 0) (n' := 0) rfl rfl rfl rfl rfl ?_
  refine X.if_eq (pc := 4) 14 dX9_repeat_4 (by decide) ⟨fun q9 => ?_, fun q9 => ?_⟩
  · have h := h.1 (bI_eq.mp q9)
    refine X.iconst (pc := 14) dX9_repeat_14 ⟨by decide, by decide⟩ ?_
    exact X.iret (pc := 15) dX9_repeat_15 rfl (Nat.le_of_ble_eq_true rfl) (Nat.le_of_ble_eq_true rfl) h
  · have h := h.2 (bI_ne.mp q9)
    refine X.iload_n (pc := 7) (i := 2) 2 dX9_repeat_7 rfl rfl ?_
    refine X.callS (pc := 8) (vs := [vI x2]) (st := []) dX9_repeat_8 rfl okM_X9_isName rfl lk_X9_65 stat_X9_isName ⟨⟨by decide, by decide⟩, ⟨by decide, by decide⟩, Nat.le_of_ble_eq_true rfl⟩ (Nat.le_of_ble_eq_true rfl) (c_X9_isName hW ?_)
    refine X.nrm (pc' := 11) (ls' := [(0, vR 0), (1, vI x1), (2, vI x2), (3, vI x3), (4, vI x4), (5, vI x5)]) (st' := [vI (bI (0 ≤ x2 ∧ x2 ≤ 7))]) (k' := 0) (n' := 0) rfl rfl rfl rfl rfl ?_
    refine X.if_ne (pc := 11) 16 dX9_repeat_11 (by decide) ⟨fun q9 => ?_, fun q9 => ?_⟩
    · have h := h.1 (bI_ne.mp q9)
      refine X.iload_n (pc := 16) (i := 3) 3 dX9_repeat_16 rfl rfl ?_
      refine X.iconst (pc := 17) dX9_repeat_17 ⟨by decide, by decide⟩ ?_
      refine X.bipush (pc := 18) (y := 20) dX9_repeat_18 rfl ⟨by decide, by decide⟩ ?_
      refine X.callS (pc := 20) (vs := [vI x3, vI 1, vI 20]) (st := []) dX9_repeat_20 rfl okM_X9_isWithin rfl lk_X9_69 stat_X9_isWithin ⟨⟨by decide, by decide⟩, ⟨by decide, by decide⟩, Nat.le_of_ble_eq_true rfl⟩ (Nat.le_of_ble_eq_true rfl) (c_X9_isWithin hW ?_)
      refine X.nrm (pc' := 23) (ls' := [(0, vR 0), (1, vI x1), (2, vI x2), (3, vI x3), (4, vI x4), (5, vI x5)]) (st' := [vI (bI (1 ≤ x3 ∧ x3 ≤ 20))]) (k' := 0) (n' := 0) rfl rfl rfl rfl rfl ?_
      refine X.if_eq (pc := 23) 34 dX9_repeat_23 (by decide) ⟨fun q9 => ?_, fun q9 => ?_⟩
      · have h := h.1 (bI_eq.mp q9)
        refine X.bipush (pc := 34) (y := -2) dX9_repeat_34 rfl ⟨by decide, by decide⟩ ?_
        exact X.iret (pc := 36) dX9_repeat_36 rfl (Nat.le_of_ble_eq_true rfl) (Nat.le_of_ble_eq_true rfl) h
      · have h := h.2 (bI_ne.mp q9)
        refine X.iload (pc := 26) (i := 5) 5 dX9_repeat_26 rfl ?_
        refine X.callS (pc := 28) (vs := [vI x5]) (st := []) dX9_repeat_28 rfl okM_X9_isCost rfl lk_X9_73 stat_X9_isCost ⟨⟨by decide, by decide⟩, ⟨by decide, by decide⟩, Nat.le_of_ble_eq_true rfl⟩ (Nat.le_of_ble_eq_true rfl) (c_X9_isCost hW ?_)
        refine X.nrm (pc' := 31) (ls' := [(0, vR 0), (1, vI x1), (2, vI x2), (3, vI x3), (4, vI x4), (5, vI x5)]) (st' := [vI (bI (0 ≤ x5 ∧ x5 ≤ 99))]) (k' := 0) (n' := 0) rfl rfl rfl rfl rfl ?_
        refine X.if_ne (pc := 31) 37 dX9_repeat_31 (by decide) ⟨fun q9 => ?_, fun q9 => ?_⟩
        · have h := h.1 (bI_ne.mp q9)
          refine X.aload_n (pc := 37) (i := 0) 0 dX9_repeat_37 rfl rfl ?_
          refine X.getR (pc := 38) (b := 1) dX9_repeat_38 fl_X9_12 rfl (fs_X9 hW) (fp_X9_0 hW) ?_
          refine X.callV (pc := 41) (vs := []) (st := []) dX9_repeat_41 rfl okM_X3_isFull rfl lk_X9_76 inst_X3_isFull sel_X3_isFull (fs_X3 hW) rfl ⟨⟨by decide, by decide⟩, ⟨by decide, by decide⟩, Nat.le_of_ble_eq_true rfl⟩ (Nat.le_of_ble_eq_true rfl) (c_X3_isFull hW ?_)
          refine X.nrm (pc' := 44) (ls' := [(0, vR 0), (1, vI x1), (2, vI x2), (3, vI x3), (4, vI x4), (5, vI x5)]) (st' := [vI (bI (40 ≤ (μ) 1 2))]) (k' := 0) (n' := 0) rfl rfl rfl rfl rfl ?_
          refine X.if_eq (pc := 44) 50 dX9_repeat_44 (by decide) ⟨fun q9 => ?_, fun q9 => ?_⟩
          · have h := h.1 (bI_eq.mp q9)
            refine X.aload_n (pc := 50) (i := 0) 0 dX9_repeat_50 rfl rfl ?_
            refine X.callV (pc := 51) (vs := []) (st := []) dX9_repeat_51 rfl okM_X9_forgetParses rfl lk_X9_80 inst_X9_forgetParses sel_X9_forgetParses (fs_X9 hW) rfl ⟨⟨by decide, by decide⟩, ⟨by decide, by decide⟩, Nat.le_of_ble_eq_true rfl⟩ (Nat.le_of_ble_eq_true rfl) ?_
            refine X.nrm (pc' := 0) (ls' := [(0, vR 0)]) (st' := []) (k' := 0) (n' := 0) rfl rfl rfl rfl rfl ?_
            refine X.aload_n (pc := 0) (i := 0) 0 dX9_forgetParses_0 rfl rfl ?_
            refine X.getR (pc := 1) (b := 213) dX9_forgetParses_1 fl_X9_35 rfl (fs_X9 hW) (fp_X9_3 hW) ?_
            refine X.iconst (pc := 4) dX9_forgetParses_4 ⟨by decide, by decide⟩ ?_
            refine X.putI (pc := 5) dX9_forgetParses_5 fl_X9_185 rfl (fun h9 => by cases h9) (fs_X1 hW mk_free) (Or.inr (Or.inr rfl)) ?_
            refine X.aload_n (pc := 8) (i := 0) 0 dX9_forgetParses_8 rfl rfl ?_
            refine X.getR (pc := 9) (b := 231) dX9_forgetParses_9 fl_X9_39 rfl (fs_X9 hW) (fp_X9_4 hW) ?_
            refine X.iconst (pc := 12) dX9_forgetParses_12 ⟨by decide, by decide⟩ ?_
            refine X.putI (pc := 13) dX9_forgetParses_13 fl_X9_185 rfl (fun h9 => by cases h9) (fs_X1 hW mk_bound) (Or.inr (Or.inr rfl)) ?_
            refine X.vret (pc := 16) dX9_forgetParses_16 rfl (Nat.le_of_ble_eq_true rfl) (Nat.le_of_ble_eq_true rfl) ?_
            refine X.nrm (pc' := 54) (ls' := [(0, vR 0), (1, vI x1), (2, vI x2), (3, vI x3), (4, vI x4), (5, vI x5)]) (st' := []) (k' := 0) (n' := 0) rfl rfl rfl rfl rfl ?_
            refine X.aload_n (pc := 54) (i := 0) 0 dX9_repeat_54 rfl rfl ?_
            refine X.getR (pc := 55) (b := 1) dX9_repeat_55 fl_X9_12 rfl (fs_X9 hW) (fp_X9_0 hW) ?_
            refine X.iload_n (pc := 58) (i := 1) 1 dX9_repeat_58 rfl rfl ?_
            refine X.iload_n (pc := 59) (i := 2) 2 dX9_repeat_59 rfl rfl ?_
            refine X.iload_n (pc := 60) (i := 3) 3 dX9_repeat_60 rfl rfl ?_
            refine X.iload (pc := 61) (i := 4) 4 dX9_repeat_61 rfl ?_
            refine X.iload (pc := 63) (i := 5) 5 dX9_repeat_63 rfl ?_
            refine X.pick [] rfl ?_
            exact X.callV (pc := 65) (vs := [vI x1, vI x2, vI x3, vI x4, vI x5]) (st := []) dX9_repeat_65 rfl okM_X3_addRepeat rfl lk_X9_104 inst_X3_addRepeat sel_X3_addRepeat (fs_X3 hW) rfl ⟨⟨by decide, by decide⟩, ⟨by decide, by decide⟩, Nat.le_of_ble_eq_true rfl⟩ (Nat.le_of_ble_eq_true rfl) h
          · have h := h.2 (bI_ne.mp q9)
            refine X.bipush (pc := 47) (y := -4) dX9_repeat_47 rfl ⟨by decide, by decide⟩ ?_
            exact X.iret (pc := 49) dX9_repeat_49 rfl (Nat.le_of_ble_eq_true rfl) (Nat.le_of_ble_eq_true rfl) h
        · have h := h.2 (bI_eq.mp q9)
          refine X.bipush (pc := 34) (y := -2) dX9_repeat_34 rfl ⟨by decide, by decide⟩ ?_
          exact X.iret (pc := 36) dX9_repeat_36 rfl (Nat.le_of_ble_eq_true rfl) (Nat.le_of_ble_eq_true rfl) h
    · have h := h.2 (bI_eq.mp q9)
      refine X.iconst (pc := 14) dX9_repeat_14 ⟨by decide, by decide⟩ ?_
      exact X.iret (pc := 15) dX9_repeat_15 rfl (Nat.le_of_ble_eq_true rfl) (Nat.le_of_ble_eq_true rfl) h

theorem g_X9_repeat_68 {sh : List (Nat × Nat)} {ν : Nat → Nat → Option Nat} {μ : Nat → Nat → Int} {f s : Nat} {Q : xQ} (hW : WF sh ν f s) {y0 : Int}
    (h : Q (some (vI y0)) sh (ν) (μ)) :
    X mX9_repeat 68 [] [vI y0] sh ν μ 0 0 Q := by
  exact X.iret (pc := 68) dX9_repeat_68 rfl (Nat.le_of_ble_eq_true rfl) (Nat.le_of_ble_eq_true rfl) h

theorem g_X9_holds_0 {sh : List (Nat × Nat)} {ν : Nat → Nat → Option Nat} {μ : Nat → Nat → Int} {f s : Nat} {Q : xQ} (hW : WF sh ν f s) {x1 : Int} {x2 : Int} {x3 : Int}
    (h : (((0 ≤ x1 ∧ x1 < (μ) 1 2) → ((((1 ≤ x2 ∧ x2 ≤ 20) ∧ 1 ≤ x3 ∧ x3 ≤ 20) → (0 ≤ x1 ∧ x1 < (40 : Nat)) ∧ X mX5_lay 0 [(0, vR 207), (1, vR (7 + 5 * (Int.toNat x1))), (2, vI x2), (3, vI x3)] [] sh (ν) (μ) 0 0 (fun v sh' ν' μ' => X mX9_holds 42 [] (v.toList ++ []) sh' ν' μ' 0 0 Q)) ∧ (¬ ((1 ≤ x2 ∧ x2 ≤ 20) ∧ 1 ≤ x3 ∧ x3 ≤ 20) → Q (some (vI (-2))) sh (ν) (μ)))) ∧ (¬ (0 ≤ x1 ∧ x1 < (μ) 1 2) → Q (some (vI (-1))) sh (ν) (μ)))) :
    X mX9_holds 0 [(0, vR 0), (1, vI x1), (2, vI x2), (3, vI x3)] [] sh ν μ 0 0 Q := by
  refine X.aload_n (pc := 0) (i := 0) 0 dX9_holds_0 rfl rfl ?_
  refine X.getR (pc := 1) (b := 1) dX9_holds_1 fl_X9_12 rfl (fs_X9 hW) (fp_X9_0 hW) ?_
  refine X.iload_n (pc := 4) (i := 1) 1 dX9_holds_4 rfl rfl ?_
  refine X.callV (pc := 5) (vs := [vI x1]) (st := []) dX9_holds_5 rfl okM_X3_has rfl lk_X9_108 inst_X3_has sel_X3_has (fs_X3 hW) rfl ⟨⟨by decide, by decide⟩, ⟨by decide, by decide⟩, Nat.le_of_ble_eq_true rfl⟩ (Nat.le_of_ble_eq_true rfl) (c_X3_has hW ?_)
  refine X.nrm (pc' := 8) (ls' := [(0, vR 0), (1, vI x1), (2, vI x2), (3, vI x3)]) (st' := [vI (bI (0 ≤ x1 ∧ x1 < (μ) 1 2))]) (k' := 0) (n' := 0) rfl rfl rfl rfl rfl ?_
  refine X.if_ne (pc := 8) 13 dX9_holds_8 (by decide) ⟨fun q9 => ?_, fun q9 => ?_⟩
  · have h := h.1 (bI_ne.mp q9)
    refine X.iload_n (pc := 13) (i := 2) 2 dX9_holds_13 rfl rfl ?_
    refine X.iload_n (pc := 14) (i := 3) 3 dX9_holds_14 rfl rfl ?_
    refine X.callS (pc := 15) (vs := [vI x2, vI x3]) (st := []) dX9_holds_15 rfl okM_X9_isScope rfl lk_X9_141 stat_X9_isScope ⟨⟨by decide, by decide⟩, ⟨by decide, by decide⟩, Nat.le_of_ble_eq_true rfl⟩ (Nat.le_of_ble_eq_true rfl) (c_X9_isScope hW ?_)
    refine X.nrm (pc' := 18) (ls' := [(0, vR 0), (1, vI x1), (2, vI x2), (3, vI x3)]) (st' := [vI (bI ((1 ≤ x2 ∧ x2 ≤ 20) ∧ 1 ≤ x3 ∧ x3 ≤ 20))]) (k' := 0) (n' := 0) rfl rfl rfl rfl rfl ?_
    refine X.if_ne (pc := 18) 24 dX9_holds_18 (by decide) ⟨fun q9 => ?_, fun q9 => ?_⟩
    · have h := h.1 (bI_ne.mp q9)
      refine X.aload_n (pc := 24) (i := 0) 0 dX9_holds_24 rfl rfl ?_
      refine X.getR (pc := 25) (b := 207) dX9_holds_25 fl_X9_19 rfl (fs_X9 hW) (fp_X9_1 hW) ?_
      refine X.aload_n (pc := 28) (i := 0) 0 dX9_holds_28 rfl rfl ?_
      refine X.getR (pc := 29) (b := 1) dX9_holds_29 fl_X9_12 rfl (fs_X9 hW) (fp_X9_0 hW) ?_
      refine X.getR (pc := 32) (b := 2) dX9_holds_32 fl_X9_111 rfl (fs_X3 hW) (fp_X3_0 hW) ?_
      refine X.iload_n (pc := 35) (i := 1) 1 dX9_holds_35 rfl rfl ?_
      obtain ⟨c1, h⟩ := h
      refine X.aaload (pc := 36) dX9_holds_36 (fa_X3_0 hW) (Or.inl rfl) c1 (fe_rules hW c1) ?_
      refine X.iload_n (pc := 37) (i := 2) 2 dX9_holds_37 rfl rfl ?_
      refine X.iload_n (pc := 38) (i := 3) 3 dX9_holds_38 rfl rfl ?_
      refine X.pick [] rfl ?_
      exact X.callV (pc := 39) (vs := [vR (7 + 5 * (Int.toNat x1)), vI x2, vI x3]) (st := []) dX9_holds_39 rfl okM_X5_lay rfl lk_X9_145 inst_X5_lay sel_X5_lay (fs_X5 hW) rfl ⟨⟨by decide, by decide⟩, ⟨by decide, by decide⟩, Nat.le_of_ble_eq_true rfl⟩ (Nat.le_of_ble_eq_true rfl) h
    · have h := h.2 (bI_eq.mp q9)
      refine X.bipush (pc := 21) (y := -2) dX9_holds_21 rfl ⟨by decide, by decide⟩ ?_
      exact X.iret (pc := 23) dX9_holds_23 rfl (Nat.le_of_ble_eq_true rfl) (Nat.le_of_ble_eq_true rfl) h
  · have h := h.2 (bI_eq.mp q9)
    refine X.iconst (pc := 11) dX9_holds_11 ⟨by decide, by decide⟩ ?_
    exact X.iret (pc := 12) dX9_holds_12 rfl (Nat.le_of_ble_eq_true rfl) (Nat.le_of_ble_eq_true rfl) h

theorem g_X9_holds_42 {sh : List (Nat × Nat)} {ν : Nat → Nat → Option Nat} {μ : Nat → Nat → Int} {f s : Nat} {Q : xQ} (hW : WF sh ν f s) {y0 : Int}
    (h : ((y0 = 0 → Q (some (vI 0)) sh (ν) (μ)) ∧ (y0 ≠ 0 → Q (some (vI 1)) sh (ν) (μ)))) :
    X mX9_holds 42 [] [vI y0] sh ν μ 0 0 Q := by
  refine X.if_eq (pc := 42) 49 dX9_holds_42 (by decide) ⟨fun q9 => ?_, fun q9 => ?_⟩
  · have h := h.1 q9
    refine X.iconst (pc := 49) dX9_holds_49 ⟨by decide, by decide⟩ ?_
    exact X.iret (pc := 50) dX9_holds_50 rfl (Nat.le_of_ble_eq_true rfl) (Nat.le_of_ble_eq_true rfl) h
  · have h := h.2 q9
    refine X.iconst (pc := 45) dX9_holds_45 ⟨by decide, by decide⟩ ?_
    refine X.goto (pc := 46) (tgt := 50) dX9_holds_46 (by decide) ?_
    exact X.iret (pc := 50) dX9_holds_50 rfl (Nat.le_of_ble_eq_true rfl) (Nat.le_of_ble_eq_true rfl) h

theorem g_X9_piece_0 {sh : List (Nat × Nat)} {ν : Nat → Nat → Option Nat} {μ : Nat → Nat → Int} {f s : Nat} {Q : xQ} (hW : WF sh ν f s) {x1 : Int} {x2 : Int} {x3 : Int} {x4 : Int} {x5 : Int}
    (h : (((0 ≤ x1 ∧ x1 < (μ) 1 2) → ((((1 ≤ x2 ∧ x2 ≤ 20) ∧ 1 ≤ x3 ∧ x3 ≤ 20) → (0 ≤ x1 ∧ x1 < (40 : Nat)) ∧ X mX5_lay 0 [(0, vR 207), (1, vR (7 + 5 * (Int.toNat x1))), (2, vI x2), (3, vI x3)] [] sh (ν) (μ) 0 0 (fun v sh' ν' μ' => X mX9_piece 42 [(0, vR 0), (4, vI x4), (5, vI x5)] (v.toList ++ []) sh' ν' μ' 0 0 Q)) ∧ (¬ ((1 ≤ x2 ∧ x2 ≤ 20) ∧ 1 ≤ x3 ∧ x3 ≤ 20) → Q (some (vI (-2))) sh (ν) (μ)))) ∧ (¬ (0 ≤ x1 ∧ x1 < (μ) 1 2) → Q (some (vI (-1))) sh (ν) (μ)))) :
    X mX9_piece 0 [(0, vR 0), (1, vI x1), (2, vI x2), (3, vI x3), (4, vI x4), (5, vI x5)] [] sh ν μ 0 0 Q := by
  refine X.aload_n (pc := 0) (i := 0) 0 dX9_piece_0 rfl rfl ?_
  refine X.getR (pc := 1) (b := 1) dX9_piece_1 fl_X9_12 rfl (fs_X9 hW) (fp_X9_0 hW) ?_
  refine X.iload_n (pc := 4) (i := 1) 1 dX9_piece_4 rfl rfl ?_
  refine X.callV (pc := 5) (vs := [vI x1]) (st := []) dX9_piece_5 rfl okM_X3_has rfl lk_X9_108 inst_X3_has sel_X3_has (fs_X3 hW) rfl ⟨⟨by decide, by decide⟩, ⟨by decide, by decide⟩, Nat.le_of_ble_eq_true rfl⟩ (Nat.le_of_ble_eq_true rfl) (c_X3_has hW ?_)
  refine X.nrm (pc' := 8) (ls' := [(0, vR 0), (1, vI x1), (2, vI x2), (3, vI x3), (4, vI x4), (5, vI x5)]) (st' := [vI (bI (0 ≤ x1 ∧ x1 < (μ) 1 2))]) (k' := 0) (n' := 0) rfl rfl rfl rfl rfl ?_
  refine X.if_ne (pc := 8) 13 dX9_piece_8 (by decide) ⟨fun q9 => ?_, fun q9 => ?_⟩
  · have h := h.1 (bI_ne.mp q9)
    refine X.iload_n (pc := 13) (i := 2) 2 dX9_piece_13 rfl rfl ?_
    refine X.iload_n (pc := 14) (i := 3) 3 dX9_piece_14 rfl rfl ?_
    refine X.callS (pc := 15) (vs := [vI x2, vI x3]) (st := []) dX9_piece_15 rfl okM_X9_isScope rfl lk_X9_141 stat_X9_isScope ⟨⟨by decide, by decide⟩, ⟨by decide, by decide⟩, Nat.le_of_ble_eq_true rfl⟩ (Nat.le_of_ble_eq_true rfl) (c_X9_isScope hW ?_)
    refine X.nrm (pc' := 18) (ls' := [(0, vR 0), (1, vI x1), (2, vI x2), (3, vI x3), (4, vI x4), (5, vI x5)]) (st' := [vI (bI ((1 ≤ x2 ∧ x2 ≤ 20) ∧ 1 ≤ x3 ∧ x3 ≤ 20))]) (k' := 0) (n' := 0) rfl rfl rfl rfl rfl ?_
    refine X.if_ne (pc := 18) 24 dX9_piece_18 (by decide) ⟨fun q9 => ?_, fun q9 => ?_⟩
    · have h := h.1 (bI_ne.mp q9)
      refine X.aload_n (pc := 24) (i := 0) 0 dX9_piece_24 rfl rfl ?_
      refine X.getR (pc := 25) (b := 207) dX9_piece_25 fl_X9_19 rfl (fs_X9 hW) (fp_X9_1 hW) ?_
      refine X.aload_n (pc := 28) (i := 0) 0 dX9_piece_28 rfl rfl ?_
      refine X.getR (pc := 29) (b := 1) dX9_piece_29 fl_X9_12 rfl (fs_X9 hW) (fp_X9_0 hW) ?_
      refine X.getR (pc := 32) (b := 2) dX9_piece_32 fl_X9_111 rfl (fs_X3 hW) (fp_X3_0 hW) ?_
      refine X.iload_n (pc := 35) (i := 1) 1 dX9_piece_35 rfl rfl ?_
      obtain ⟨c1, h⟩ := h
      refine X.aaload (pc := 36) dX9_piece_36 (fa_X3_0 hW) (Or.inl rfl) c1 (fe_rules hW c1) ?_
      refine X.iload_n (pc := 37) (i := 2) 2 dX9_piece_37 rfl rfl ?_
      refine X.iload_n (pc := 38) (i := 3) 3 dX9_piece_38 rfl rfl ?_
      refine X.pick [0, 4, 5] rfl ?_
      exact X.callV (pc := 39) (vs := [vR (7 + 5 * (Int.toNat x1)), vI x2, vI x3]) (st := []) dX9_piece_39 rfl okM_X5_lay rfl lk_X9_145 inst_X5_lay sel_X5_lay (fs_X5 hW) rfl ⟨⟨by decide, by decide⟩, ⟨by decide, by decide⟩, Nat.le_of_ble_eq_true rfl⟩ (Nat.le_of_ble_eq_true rfl) h
    · have h := h.2 (bI_eq.mp q9)
      refine X.bipush (pc := 21) (y := -2) dX9_piece_21 rfl ⟨by decide, by decide⟩ ?_
      exact X.iret (pc := 23) dX9_piece_23 rfl (Nat.le_of_ble_eq_true rfl) (Nat.le_of_ble_eq_true rfl) h
  · have h := h.2 (bI_eq.mp q9)
    refine X.iconst (pc := 11) dX9_piece_11 ⟨by decide, by decide⟩ ?_
    exact X.iret (pc := 12) dX9_piece_12 rfl (Nat.le_of_ble_eq_true rfl) (Nat.le_of_ble_eq_true rfl) h

theorem g_X9_piece_42 {sh : List (Nat × Nat)} {ν : Nat → Nat → Option Nat} {μ : Nat → Nat → Int} {f s : Nat} {Q : xQ} (hW : WF sh ν f s) {x4 : Int} {x5 : Int} {y0 : Int}
    (h : ((y0 ≠ 0 → ((x4 < 0 → Q (some (vI (-9))) sh (ν) (μ)) ∧ (0 ≤ x4 → ((x4 < ((μ) 207 3) → ((x5 = 0 → (0 ≤ x4 ∧ x4 < (20 : Nat)) ∧ Q (some (vI ((μ) 209 (Int.toNat x4)))) sh (ν) (μ)) ∧ (x5 ≠ 0 → (0 ≤ x4 ∧ x4 < (20 : Nat)) ∧ Q (some (vI ((μ) 210 (Int.toNat x4)))) sh (ν) (μ)))) ∧ (((μ) 207 3) ≤ x4 → Q (some (vI (-9))) sh (ν) (μ)))))) ∧ (y0 = 0 → Q (some (vI (-3))) sh (ν) (μ)))) :
    X mX9_piece 42 [(0, vR 0), (4, vI x4), (5, vI x5)] [vI y0] sh ν μ 0 0 Q := by
  refine X.if_ne (pc := 42) 48 dX9_piece_42 (by decide) ⟨fun q9 => ?_, fun q9 => ?_⟩
  · have h := h.1 q9
    refine X.iload (pc := 48) (i := 4) 1 dX9_piece_48 rfl ?_
    refine X.if_lt (pc := 50) 65 dX9_piece_50 (by decide) ⟨fun q9 => ?_, fun q9 => ?_⟩
    · have h := h.1 q9
      refine X.bipush (pc := 65) (y := -9) dX9_piece_65 rfl ⟨by decide, by decide⟩ ?_
      exact X.iret (pc := 67) dX9_piece_67 rfl (Nat.le_of_ble_eq_true rfl) (Nat.le_of_ble_eq_true rfl) h
    · have h := h.2 q9
      refine X.iload (pc := 53) (i := 4) 1 dX9_piece_53 rfl ?_
      refine X.aload_n (pc := 55) (i := 0) 0 dX9_piece_55 rfl rfl ?_
      refine X.getR (pc := 56) (b := 207) dX9_piece_56 fl_X9_19 rfl (fs_X9 hW) (fp_X9_1 hW) ?_
      refine X.getI (pc := 59) dX9_piece_59 fl_X9_149 rfl (fs_X5 hW) ?_
      refine X.icmp_lt (pc := 62) 68 dX9_piece_62 (by decide) ⟨fun q9 => ?_, fun q9 => ?_⟩
      · have h := h.1 q9
        refine X.iload (pc := 68) (i := 5) 2 dX9_piece_68 rfl ?_
        refine X.if_eq (pc := 70) 86 dX9_piece_70 (by decide) ⟨fun q9 => ?_, fun q9 => ?_⟩
        · have h := h.1 q9
          refine X.aload_n (pc := 86) (i := 0) 0 dX9_piece_86 rfl rfl ?_
          refine X.getR (pc := 87) (b := 207) dX9_piece_87 fl_X9_19 rfl (fs_X9 hW) (fp_X9_1 hW) ?_
          refine X.getR (pc := 90) (b := 209) dX9_piece_90 fl_X9_154 rfl (fs_X5 hW) (fp_X5_1 hW) ?_
          refine X.iload (pc := 93) (i := 4) 1 dX9_piece_93 rfl ?_
          obtain ⟨c1, h⟩ := h
          refine X.iaload (pc := 95) dX9_piece_95 (fa_X5_1 hW) c1 ?_
          exact X.iret (pc := 96) dX9_piece_96 rfl (Nat.le_of_ble_eq_true rfl) (Nat.le_of_ble_eq_true rfl) h
        · have h := h.2 q9
          refine X.aload_n (pc := 73) (i := 0) 0 dX9_piece_73 rfl rfl ?_
          refine X.getR (pc := 74) (b := 207) dX9_piece_74 fl_X9_19 rfl (fs_X9 hW) (fp_X9_1 hW) ?_
          refine X.getR (pc := 77) (b := 210) dX9_piece_77 fl_X9_150 rfl (fs_X5 hW) (fp_X5_2 hW) ?_
          refine X.iload (pc := 80) (i := 4) 1 dX9_piece_80 rfl ?_
          obtain ⟨c2, h⟩ := h
          refine X.iaload (pc := 82) dX9_piece_82 (fa_X5_2 hW) c2 ?_
          refine X.goto (pc := 83) (tgt := 96) dX9_piece_83 (by decide) ?_
          exact X.iret (pc := 96) dX9_piece_96 rfl (Nat.le_of_ble_eq_true rfl) (Nat.le_of_ble_eq_true rfl) h
      · have h := h.2 q9
        refine X.bipush (pc := 65) (y := -9) dX9_piece_65 rfl ⟨by decide, by decide⟩ ?_
        exact X.iret (pc := 67) dX9_piece_67 rfl (Nat.le_of_ble_eq_true rfl) (Nat.le_of_ble_eq_true rfl) h
  · have h := h.2 q9
    refine X.bipush (pc := 45) (y := -3) dX9_piece_45 rfl ⟨by decide, by decide⟩ ?_
    exact X.iret (pc := 47) dX9_piece_47 rfl (Nat.le_of_ble_eq_true rfl) (Nat.le_of_ble_eq_true rfl) h

theorem g_X9_draw_0 {sh : List (Nat × Nat)} {ν : Nat → Nat → Option Nat} {μ : Nat → Nat → Int} {f s : Nat} {Q : xQ} (hW : WF sh ν f s) {x1 : Int} {x2 : Int} {x3 : Int}
    (h : ((((1 ≤ x2 ∧ x2 ≤ 20) ∧ 1 ≤ x3 ∧ x3 ≤ 20) → X mX8_grow 0 [(0, vR 249), (1, vR s), (2, vI x1), (3, vI x2), (4, vI x3)] [] sh (ν) (μ) 0 0 (fun v sh' ν' μ' => X mX9_draw 25 [(0, vR 0)] (v.toList ++ []) sh' ν' μ' 0 0 Q)) ∧ (¬ ((1 ≤ x2 ∧ x2 ≤ 20) ∧ 1 ≤ x3 ∧ x3 ≤ 20) → Q (some (vI (-2))) sh (ν) (μ)))) :
    X mX9_draw 0 [(0, vR 0), (1, vI x1), (2, vI x2), (3, vI x3)] [] sh ν μ 0 0 Q := by
  refine X.iload_n (pc := 0) (i := 2) 2 dX9_draw_0 rfl rfl ?_
  refine X.iload_n (pc := 1) (i := 3) 3 dX9_draw_1 rfl rfl ?_
  refine X.callS (pc := 2) (vs := [vI x2, vI x3]) (st := []) dX9_draw_2 rfl okM_X9_isScope rfl lk_X9_141 stat_X9_isScope ⟨⟨by decide, by decide⟩, ⟨by decide, by decide⟩, Nat.le_of_ble_eq_true rfl⟩ (Nat.le_of_ble_eq_true rfl) (c_X9_isScope hW ?_)
  refine X.nrm (pc' := 5) (ls' := [(0, vR 0), (1, vI x1), (2, vI x2), (3, vI x3)]) (st' := [vI (bI ((1 ≤ x2 ∧ x2 ≤ 20) ∧ 1 ≤ x3 ∧ x3 ≤ 20))]) (k' := 0) (n' := 0) rfl rfl rfl rfl rfl ?_
  refine X.if_ne (pc := 5) 11 dX9_draw_5 (by decide) ⟨fun q9 => ?_, fun q9 => ?_⟩
  · have h := h.1 (bI_ne.mp q9)
    refine X.aload_n (pc := 11) (i := 0) 0 dX9_draw_11 rfl rfl ?_
    refine X.getR (pc := 12) (b := 249) dX9_draw_12 fl_X9_47 rfl (fs_X9 hW) (fp_X9_5 hW) ?_
    refine X.aload_n (pc := 15) (i := 0) 0 dX9_draw_15 rfl rfl ?_
    refine X.getR (pc := 16) (b := s) dX9_draw_16 fl_X9_58 rfl (fs_X9 hW) (fp_X9_7 hW) ?_
    refine X.iload_n (pc := 19) (i := 1) 1 dX9_draw_19 rfl rfl ?_
    refine X.iload_n (pc := 20) (i := 2) 2 dX9_draw_20 rfl rfl ?_
    refine X.iload_n (pc := 21) (i := 3) 3 dX9_draw_21 rfl rfl ?_
    refine X.pick [0] rfl ?_
    exact X.callV (pc := 22) (vs := [vR s, vI x1, vI x2, vI x3]) (st := []) dX9_draw_22 rfl okM_X8_grow rfl lk_X9_157 inst_X8_grow sel_X8_grow (fs_X8 hW) rfl ⟨⟨by decide, by decide⟩, ⟨by decide, by decide⟩, Nat.le_of_ble_eq_true rfl⟩ (Nat.le_of_ble_eq_true rfl) h
  · have h := h.2 (bI_eq.mp q9)
    refine X.bipush (pc := 8) (y := -2) dX9_draw_8 rfl ⟨by decide, by decide⟩ ?_
    exact X.iret (pc := 10) dX9_draw_10 rfl (Nat.le_of_ble_eq_true rfl) (Nat.le_of_ble_eq_true rfl) h

theorem g_X9_draw_25 {sh : List (Nat × Nat)} {ν : Nat → Nat → Option Nat} {μ : Nat → Nat → Int} {f s : Nat} {Q : xQ} (hW : WF sh ν f s) {y0 : Int}
    (h : ((y0 = 0 → Q (some (vI ((up μ 0 8 0) s 4))) sh (upr (upr ν 0 6 (some s)) 0 7 (some f)) (up μ 0 8 0)) ∧ (y0 ≠ 0 → Q (some (vI (w32 ((-100) - y0)))) sh (ν) (up μ 0 8 ((μ) 249 10))))) :
    X mX9_draw 25 [(0, vR 0)] [vI y0] sh ν μ 0 0 Q := by
  refine X.istore (pc := 25) (i := 4) (ls' := [(4, vI y0), (0, vR 0)]) dX9_draw_25 (by decide) rfl ?_
  refine X.iload (pc := 27) (i := 4) 0 dX9_draw_27 rfl ?_
  refine X.if_eq (pc := 29) 49 dX9_draw_29 (by decide) ⟨fun q9 => ?_, fun q9 => ?_⟩
  · have h := h.1 q9
    refine X.aload_n (pc := 49) (i := 0) 1 dX9_draw_49 rfl rfl ?_
    refine X.iconst (pc := 50) dX9_draw_50 ⟨by decide, by decide⟩ ?_
    refine X.putI (pc := 51) dX9_draw_51 fl_X9_61 rfl (fun h9 => by cases h9) (fs_X9 hW) (Or.inl rfl) ?_
    refine X.aload_n (pc := 54) (i := 0) 1 dX9_draw_54 rfl rfl ?_
    refine X.getR (pc := 55) (b := f) dX9_draw_55 fl_X9_54 rfl (fs_X9 hW) (fp_X9_6 hW) ?_
    refine X.astore (pc := 58) (i := 5) (ls' := [(5, vR f), (4, vI y0), (0, vR 0)]) dX9_draw_58 (by decide) rfl ?_
    refine X.aload_n (pc := 60) (i := 0) 2 dX9_draw_60 rfl rfl ?_
    refine X.aload_n (pc := 61) (i := 0) 2 dX9_draw_61 rfl rfl ?_
    refine X.getR (pc := 62) (b := s) dX9_draw_62 fl_X9_58 rfl (fs_X9 hW) (fp_X9_7 hW) ?_
    refine X.putR (pc := 65) dX9_draw_65 fl_X9_54 rfl (fun h9 => by cases h9) (fs_X9 hW) ?_
    refine X.aload_n (pc := 68) (i := 0) 2 dX9_draw_68 rfl rfl ?_
    refine X.aload (pc := 69) (i := 5) 0 dX9_draw_69 rfl ?_
    refine X.putR (pc := 71) dX9_draw_71 fl_X9_58 rfl (fun h9 => by cases h9) (fs_X9 hW) ?_
    refine X.aload_n (pc := 74) (i := 0) 2 dX9_draw_74 rfl rfl ?_
    refine X.getR (pc := 75) (b := s) dX9_draw_75 fl_X9_54 rfl (fs_X9 hW) (by simp [upr]) ?_
    refine X.getI (pc := 78) dX9_draw_78 fl_X9_164 rfl (fs_X2 hW (wf_s hW)) ?_
    exact X.iret (pc := 81) dX9_draw_81 rfl (Nat.le_of_ble_eq_true rfl) (Nat.le_of_ble_eq_true rfl) h
  · have h := h.2 q9
    refine X.aload_n (pc := 32) (i := 0) 1 dX9_draw_32 rfl rfl ?_
    refine X.aload_n (pc := 33) (i := 0) 1 dX9_draw_33 rfl rfl ?_
    refine X.getR (pc := 34) (b := 249) dX9_draw_34 fl_X9_47 rfl (fs_X9 hW) (fp_X9_5 hW) ?_
    refine X.getI (pc := 37) dX9_draw_37 fl_X9_161 rfl (fs_X8 hW) ?_
    refine X.putI (pc := 40) dX9_draw_40 fl_X9_61 rfl (fun h9 => by cases h9) (fs_X9 hW) (Or.inl rfl) ?_
    refine X.bipush (pc := 43) (y := -100) dX9_draw_43 rfl ⟨by decide, by decide⟩ ?_
    refine X.iload (pc := 45) (i := 4) 0 dX9_draw_45 rfl ?_
    refine X.isub (pc := 47) dX9_draw_47 ?_
    exact X.iret (pc := 48) dX9_draw_48 rfl (Nat.le_of_ble_eq_true rfl) (Nat.le_of_ble_eq_true rfl) h

theorem g_X9_at_0 {sh : List (Nat × Nat)} {ν : Nat → Nat → Option Nat} {μ : Nat → Nat → Int} {f s : Nat} {Q : xQ} (hW : WF sh ν f s) {x1 : Int} {x2 : Int}
    (h : ((x1 < 0 → Q (some (vI (-9))) sh (ν) (μ)) ∧ (0 ≤ x1 → ((((μ) f 2) ≤ x1 → Q (some (vI (-9))) sh (ν) (μ)) ∧ (x1 < ((μ) f 2) → ((x2 < 0 → Q (some (vI (-9))) sh (ν) (μ)) ∧ (0 ≤ x2 → ((x2 < ((μ) f 3) → X mX2_letterOf 0 [(0, vR f), (1, vI x1), (2, vI x2)] [] sh (ν) (μ) 0 0 (fun v sh' ν' μ' => X mX9_at 42 [] (v.toList ++ []) sh' ν' μ' 0 0 Q)) ∧ (((μ) f 3) ≤ x2 → Q (some (vI (-9))) sh (ν) (μ)))))))))) :
    X mX9_at 0 [(0, vR 0), (1, vI x1), (2, vI x2)] [] sh ν μ 0 0 Q := by
  refine X.iload_n (pc := 0) (i := 1) 1 dX9_at_0 rfl rfl ?_
  refine X.if_lt (pc := 1) 30 dX9_at_1 (by decide) ⟨fun q9 => ?_, fun q9 => ?_⟩
  · have h := h.1 q9
    refine X.bipush (pc := 30) (y := -9) dX9_at_30 rfl ⟨by decide, by decide⟩ ?_
    exact X.iret (pc := 32) dX9_at_32 rfl (Nat.le_of_ble_eq_true rfl) (Nat.le_of_ble_eq_true rfl) h
  · have h := h.2 q9
    refine X.iload_n (pc := 4) (i := 1) 1 dX9_at_4 rfl rfl ?_
    refine X.aload_n (pc := 5) (i := 0) 0 dX9_at_5 rfl rfl ?_
    refine X.getR (pc := 6) (b := f) dX9_at_6 fl_X9_54 rfl (fs_X9 hW) (fp_X9_6 hW) ?_
    refine X.getI (pc := 9) dX9_at_9 fl_X9_165 rfl (fs_X2 hW (wf_f hW)) ?_
    refine X.icmp_ge (pc := 12) 30 dX9_at_12 (by decide) ⟨fun q9 => ?_, fun q9 => ?_⟩
    · have h := h.1 q9
      refine X.bipush (pc := 30) (y := -9) dX9_at_30 rfl ⟨by decide, by decide⟩ ?_
      exact X.iret (pc := 32) dX9_at_32 rfl (Nat.le_of_ble_eq_true rfl) (Nat.le_of_ble_eq_true rfl) h
    · have h := h.2 q9
      refine X.iload_n (pc := 15) (i := 2) 2 dX9_at_15 rfl rfl ?_
      refine X.if_lt (pc := 16) 30 dX9_at_16 (by decide) ⟨fun q9 => ?_, fun q9 => ?_⟩
      · have h := h.1 q9
        refine X.bipush (pc := 30) (y := -9) dX9_at_30 rfl ⟨by decide, by decide⟩ ?_
        exact X.iret (pc := 32) dX9_at_32 rfl (Nat.le_of_ble_eq_true rfl) (Nat.le_of_ble_eq_true rfl) h
      · have h := h.2 q9
        refine X.iload_n (pc := 19) (i := 2) 2 dX9_at_19 rfl rfl ?_
        refine X.aload_n (pc := 20) (i := 0) 0 dX9_at_20 rfl rfl ?_
        refine X.getR (pc := 21) (b := f) dX9_at_21 fl_X9_54 rfl (fs_X9 hW) (fp_X9_6 hW) ?_
        refine X.getI (pc := 24) dX9_at_24 fl_X9_168 rfl (fs_X2 hW (wf_f hW)) ?_
        refine X.icmp_lt (pc := 27) 33 dX9_at_27 (by decide) ⟨fun q9 => ?_, fun q9 => ?_⟩
        · have h := h.1 q9
          refine X.aload_n (pc := 33) (i := 0) 0 dX9_at_33 rfl rfl ?_
          refine X.getR (pc := 34) (b := f) dX9_at_34 fl_X9_54 rfl (fs_X9 hW) (fp_X9_6 hW) ?_
          refine X.iload_n (pc := 37) (i := 1) 1 dX9_at_37 rfl rfl ?_
          refine X.iload_n (pc := 38) (i := 2) 2 dX9_at_38 rfl rfl ?_
          refine X.pick [] rfl ?_
          exact X.callV (pc := 39) (vs := [vI x1, vI x2]) (st := []) dX9_at_39 rfl okM_X2_letterOf rfl lk_X9_171 inst_X2_letterOf sel_X2_letterOf (fs_X2 hW (wf_f hW)) rfl ⟨⟨by decide, by decide⟩, ⟨by decide, by decide⟩, Nat.le_of_ble_eq_true rfl⟩ (Nat.le_of_ble_eq_true rfl) h
        · have h := h.2 q9
          refine X.bipush (pc := 30) (y := -9) dX9_at_30 rfl ⟨by decide, by decide⟩ ?_
          exact X.iret (pc := 32) dX9_at_32 rfl (Nat.le_of_ble_eq_true rfl) (Nat.le_of_ble_eq_true rfl) h

theorem g_X9_at_42 {sh : List (Nat × Nat)} {ν : Nat → Nat → Option Nat} {μ : Nat → Nat → Int} {f s : Nat} {Q : xQ} (hW : WF sh ν f s) {y0 : Int}
    (h : Q (some (vI y0)) sh (ν) (μ)) :
    X mX9_at 42 [] [vI y0] sh ν μ 0 0 Q := by
  exact X.iret (pc := 42) dX9_at_42 rfl (Nat.le_of_ble_eq_true rfl) (Nat.le_of_ble_eq_true rfl) h

theorem g_X9_take_0 {sh : List (Nat × Nat)} {ν : Nat → Nat → Option Nat} {μ : Nat → Nat → Int} {f s : Nat} {Q : xQ} (hW : WF sh ν f s) 
    (h : ((((μ) f 2) = 0 → Q (some (vI (-3))) sh (ν) (μ)) ∧ (((μ) f 2) ≠ 0 → ((9 < ((μ) f 2) → Q (some (vI (-3))) sh (ν) (μ)) ∧ (((μ) f 2) ≤ 9 → ((((μ) f 3) ≤ 9 → X mX0_begin 0 [(0, vR 211), (1, vI ((μ) f 2)), (2, vI ((μ) f 3))] [] sh (ν) (μ) 0 0 (fun v sh' ν' μ' => X mX9_take 58 [(0, vR 0)] (v.toList ++ []) sh' ν' μ' 0 0 Q)) ∧ (9 < ((μ) f 3) → Q (some (vI (-3))) sh (ν) (μ)))))))) :
    X mX9_take 0 [(0, vR 0)] [] sh ν μ 0 0 Q := by
  refine X.aload_n (pc := 0) (i := 0) 0 dX9_take_0 rfl rfl ?_
  refine X.getR (pc := 1) (b := f) dX9_take_1 fl_X9_54 rfl (fs_X9 hW) (fp_X9_6 hW) ?_
  refine X.getI (pc := 4) dX9_take_4 fl_X9_165 rfl (fs_X2 hW (wf_f hW)) ?_
  refine X.if_eq (pc := 7) 34 dX9_take_7 (by decide) ⟨fun q9 => ?_, fun q9 => ?_⟩
  · have h := h.1 q9
    refine X.bipush (pc := 34) (y := -3) dX9_take_34 rfl ⟨by decide, by decide⟩ ?_
    exact X.iret (pc := 36) dX9_take_36 rfl (Nat.le_of_ble_eq_true rfl) (Nat.le_of_ble_eq_true rfl) h
  · have h := h.2 q9
    refine X.aload_n (pc := 10) (i := 0) 0 dX9_take_10 rfl rfl ?_
    refine X.getR (pc := 11) (b := f) dX9_take_11 fl_X9_54 rfl (fs_X9 hW) (fp_X9_6 hW) ?_
    refine X.getI (pc := 14) dX9_take_14 fl_X9_165 rfl (fs_X2 hW (wf_f hW)) ?_
    refine X.bipush (pc := 17) (y := 9) dX9_take_17 rfl ⟨by decide, by decide⟩ ?_
    refine X.icmp_gt (pc := 19) 34 dX9_take_19 (by decide) ⟨fun q9 => ?_, fun q9 => ?_⟩
    · have h := h.1 q9
      refine X.bipush (pc := 34) (y := -3) dX9_take_34 rfl ⟨by decide, by decide⟩ ?_
      exact X.iret (pc := 36) dX9_take_36 rfl (Nat.le_of_ble_eq_true rfl) (Nat.le_of_ble_eq_true rfl) h
    · have h := h.2 q9
      refine X.aload_n (pc := 22) (i := 0) 0 dX9_take_22 rfl rfl ?_
      refine X.getR (pc := 23) (b := f) dX9_take_23 fl_X9_54 rfl (fs_X9 hW) (fp_X9_6 hW) ?_
      refine X.getI (pc := 26) dX9_take_26 fl_X9_168 rfl (fs_X2 hW (wf_f hW)) ?_
      refine X.bipush (pc := 29) (y := 9) dX9_take_29 rfl ⟨by decide, by decide⟩ ?_
      refine X.icmp_le (pc := 31) 37 dX9_take_31 (by decide) ⟨fun q9 => ?_, fun q9 => ?_⟩
      · have h := h.1 q9
        refine X.aload_n (pc := 37) (i := 0) 0 dX9_take_37 rfl rfl ?_
        refine X.getR (pc := 38) (b := 211) dX9_take_38 fl_X9_26 rfl (fs_X9 hW) (fp_X9_2 hW) ?_
        refine X.aload_n (pc := 41) (i := 0) 0 dX9_take_41 rfl rfl ?_
        refine X.getR (pc := 42) (b := f) dX9_take_42 fl_X9_54 rfl (fs_X9 hW) (fp_X9_6 hW) ?_
        refine X.getI (pc := 45) dX9_take_45 fl_X9_165 rfl (fs_X2 hW (wf_f hW)) ?_
        refine X.aload_n (pc := 48) (i := 0) 0 dX9_take_48 rfl rfl ?_
        refine X.getR (pc := 49) (b := f) dX9_take_49 fl_X9_54 rfl (fs_X9 hW) (fp_X9_6 hW) ?_
        refine X.getI (pc := 52) dX9_take_52 fl_X9_168 rfl (fs_X2 hW (wf_f hW)) ?_
        exact X.callV (pc := 55) (vs := [vI ((μ) f 2), vI ((μ) f 3)]) (st := []) dX9_take_55 rfl okM_X0_begin rfl lk_X9_179 inst_X0_begin sel_X0_begin (fs_X0 hW) rfl ⟨⟨by decide, by decide⟩, ⟨by decide, by decide⟩, Nat.le_of_ble_eq_true rfl⟩ (Nat.le_of_ble_eq_true rfl) h
      · have h := h.2 q9
        refine X.bipush (pc := 34) (y := -3) dX9_take_34 rfl ⟨by decide, by decide⟩ ?_
        exact X.iret (pc := 36) dX9_take_36 rfl (Nat.le_of_ble_eq_true rfl) (Nat.le_of_ble_eq_true rfl) h

theorem g_X9_take_58 {sh : List (Nat × Nat)} {ν : Nat → Nat → Option Nat} {μ : Nat → Nat → Int} {f s : Nat} {Q : xQ} (hW : WF sh ν f s) 
    (h : X mX9_take 60 [(0, vR 0), (1, vI 0)] [] sh (ν) (μ) 0 0 Q) :
    X mX9_take 58 [(0, vR 0)] [] sh ν μ 0 0 Q := by
  refine X.iconst (pc := 58) dX9_take_58 ⟨by decide, by decide⟩ ?_
  refine X.istore_n (pc := 59) (i := 1) (ls' := [(1, vI 0), (0, vR 0)]) dX9_take_59 rfl (by decide) rfl ?_
  exact X.pick [1, 0] rfl h

theorem g_X9_take_60 {sh : List (Nat × Nat)} {ν : Nat → Nat → Option Nat} {μ : Nat → Nat → Int} {f s : Nat} {Q : xQ} (hW : WF sh ν f s) {x1 : Int}
    (h : ((((μ) f 3) ≤ x1 → Q (some (vI 1)) sh (ν) (up μ 231 13 1)) ∧ (x1 < ((μ) f 3) → X mX9_take 73 [(0, vR 0), (1, vI x1), (2, vI 0)] [] sh (ν) (μ) 0 0 Q))) :
    X mX9_take 60 [(0, vR 0), (1, vI x1)] [] sh ν μ 0 0 Q := by
  refine X.iload_n (pc := 60) (i := 1) 1 dX9_take_60 rfl rfl ?_
  refine X.aload_n (pc := 61) (i := 0) 0 dX9_take_61 rfl rfl ?_
  refine X.getR (pc := 62) (b := f) dX9_take_62 fl_X9_54 rfl (fs_X9 hW) (fp_X9_6 hW) ?_
  refine X.getI (pc := 65) dX9_take_65 fl_X9_168 rfl (fs_X2 hW (wf_f hW)) ?_
  refine X.icmp_ge (pc := 68) 114 dX9_take_68 (by decide) ⟨fun q9 => ?_, fun q9 => ?_⟩
  · have h := h.1 q9
    refine X.aload_n (pc := 114) (i := 0) 0 dX9_take_114 rfl rfl ?_
    refine X.getR (pc := 115) (b := 231) dX9_take_115 fl_X9_39 rfl (fs_X9 hW) (fp_X9_4 hW) ?_
    refine X.iconst (pc := 118) dX9_take_118 ⟨by decide, by decide⟩ ?_
    refine X.putI (pc := 119) dX9_take_119 fl_X9_185 rfl (fun h9 => by cases h9) (fs_X1 hW mk_bound) (Or.inr (Or.inr rfl)) ?_
    refine X.iconst (pc := 122) dX9_take_122 ⟨by decide, by decide⟩ ?_
    exact X.iret (pc := 123) dX9_take_123 rfl (Nat.le_of_ble_eq_true rfl) (Nat.le_of_ble_eq_true rfl) h
  · have h := h.2 q9
    refine X.iconst (pc := 71) dX9_take_71 ⟨by decide, by decide⟩ ?_
    refine X.istore_n (pc := 72) (i := 2) (ls' := [(2, vI 0), (0, vR 0), (1, vI x1)]) dX9_take_72 rfl (by decide) rfl ?_
    exact X.pick [1, 2, 0] rfl h

theorem g_X9_take_73 {sh : List (Nat × Nat)} {ν : Nat → Nat → Option Nat} {μ : Nat → Nat → Int} {f s : Nat} {Q : xQ} (hW : WF sh ν f s) {x1 : Int} {x2 : Int}
    (h : ((((μ) f 2) ≤ x2 → X mX9_take 60 [(0, vR 0), (1, vI (w32 (x1 + 1)))] [] sh (ν) (μ) 0 0 Q) ∧ (x2 < ((μ) f 2) → X mX2_letterOf 0 [(0, vR f), (1, vI x2), (2, vI x1)] [] sh (ν) (μ) 0 0 (fun v sh' ν' μ' => X mX9_take 99 [(0, vR 0), (1, vI x1), (2, vI x2)] (v.toList ++ [vI x1, vI x2, vR 211]) sh' ν' μ' 0 0 Q)))) :
    X mX9_take 73 [(0, vR 0), (1, vI x1), (2, vI x2)] [] sh ν μ 0 0 Q := by
  refine X.iload_n (pc := 73) (i := 2) 2 dX9_take_73 rfl rfl ?_
  refine X.aload_n (pc := 74) (i := 0) 0 dX9_take_74 rfl rfl ?_
  refine X.getR (pc := 75) (b := f) dX9_take_75 fl_X9_54 rfl (fs_X9 hW) (fp_X9_6 hW) ?_
  refine X.getI (pc := 78) dX9_take_78 fl_X9_165 rfl (fs_X2 hW (wf_f hW)) ?_
  refine X.icmp_ge (pc := 81) 108 dX9_take_81 (by decide) ⟨fun q9 => ?_, fun q9 => ?_⟩
  · have h := h.1 q9
    refine X.iinc (pc := 108) (i := 1) (ls' := [(1, vI (w32 (x1 + 1))), (0, vR 0), (2, vI x2)]) 1 dX9_take_108 rfl (by decide) rfl ?_
    refine X.goto (pc := 111) (tgt := 60) dX9_take_111 (by decide) ?_
    exact X.pick [1, 0] rfl h
  · have h := h.2 q9
    refine X.aload_n (pc := 84) (i := 0) 0 dX9_take_84 rfl rfl ?_
    refine X.getR (pc := 85) (b := 211) dX9_take_85 fl_X9_26 rfl (fs_X9 hW) (fp_X9_2 hW) ?_
    refine X.iload_n (pc := 88) (i := 2) 2 dX9_take_88 rfl rfl ?_
    refine X.iload_n (pc := 89) (i := 1) 1 dX9_take_89 rfl rfl ?_
    refine X.aload_n (pc := 90) (i := 0) 0 dX9_take_90 rfl rfl ?_
    refine X.getR (pc := 91) (b := f) dX9_take_91 fl_X9_54 rfl (fs_X9 hW) (fp_X9_6 hW) ?_
    refine X.iload_n (pc := 94) (i := 2) 2 dX9_take_94 rfl rfl ?_
    refine X.iload_n (pc := 95) (i := 1) 1 dX9_take_95 rfl rfl ?_
    exact X.callV (pc := 96) (vs := [vI x2, vI x1]) (st := [vI x1, vI x2, vR 211]) dX9_take_96 rfl okM_X2_letterOf rfl lk_X9_171 inst_X2_letterOf sel_X2_letterOf (fs_X2 hW (wf_f hW)) rfl ⟨⟨by decide, by decide⟩, ⟨by decide, by decide⟩, Nat.le_of_ble_eq_true rfl⟩ (Nat.le_of_ble_eq_true rfl) h

theorem g_X9_take_99 {sh : List (Nat × Nat)} {ν : Nat → Nat → Option Nat} {μ : Nat → Nat → Int} {f s : Nat} {Q : xQ} (hW : WF sh ν f s) {x1 : Int} {x2 : Int} {y1 : Int} {y2 : Int} {y3 : Int}
    (h : X mX0_set 0 [(0, vR 211), (1, vI y1), (2, vI y2), (3, vI y3)] [] sh (ν) (μ) 0 0 (fun v sh' ν' μ' => X mX9_take 102 [(0, vR 0), (1, vI x1), (2, vI x2)] (v.toList ++ []) sh' ν' μ' 0 0 Q)) :
    X mX9_take 99 [(0, vR 0), (1, vI x1), (2, vI x2)] [vI y3, vI y2, vI y1, vR 211] sh ν μ 0 0 Q := by
  exact X.callV (pc := 99) (vs := [vI y1, vI y2, vI y3]) (st := []) dX9_take_99 rfl okM_X0_set rfl lk_X9_182 inst_X0_set sel_X0_set (fs_X0 hW) rfl ⟨⟨by decide, by decide⟩, ⟨by decide, by decide⟩, Nat.le_of_ble_eq_true rfl⟩ (Nat.le_of_ble_eq_true rfl) h

theorem g_X9_take_102 {sh : List (Nat × Nat)} {ν : Nat → Nat → Option Nat} {μ : Nat → Nat → Int} {f s : Nat} {Q : xQ} (hW : WF sh ν f s) {x1 : Int} {x2 : Int}
    (h : X mX9_take 73 [(0, vR 0), (1, vI x1), (2, vI (w32 (x2 + 1)))] [] sh (ν) (μ) 0 0 Q) :
    X mX9_take 102 [(0, vR 0), (1, vI x1), (2, vI x2)] [] sh ν μ 0 0 Q := by
  refine X.iinc (pc := 102) (i := 2) (ls' := [(2, vI (w32 (x2 + 1))), (0, vR 0), (1, vI x1)]) 2 dX9_take_102 rfl (by decide) rfl ?_
  refine X.goto (pc := 105) (tgt := 73) dX9_take_105 (by decide) ?_
  exact X.pick [1, 2, 0] rfl h

theorem g_X9_ways_0 {sh : List (Nat × Nat)} {ν : Nat → Nat → Option Nat} {μ : Nat → Nat → Int} {f s : Nat} {Q : xQ} (hW : WF sh ν f s) {x1 : Int} {x2 : Int} {x3 : Int}
    (h : (((0 ≤ x1 ∧ x1 ≤ 7) → ((((1 ≤ x2 ∧ x2 ≤ 20) ∧ 1 ≤ x3 ∧ x3 ≤ 20) → X mX1_settle 0 [(0, vR 213), (1, vI x1), (2, vI 0), (3, vI 0), (4, vI x2), (5, vI x3)] [] sh (ν) (μ) 0 0 (fun v sh' ν' μ' => X mX9_ways 39 [] (v.toList ++ [vR 213]) sh' ν' μ' 0 0 Q)) ∧ (¬ ((1 ≤ x2 ∧ x2 ≤ 20) ∧ 1 ≤ x3 ∧ x3 ≤ 20) → Q (some (vL (-2))) sh (ν) (μ)))) ∧ (¬ (0 ≤ x1 ∧ x1 ≤ 7) → Q (some (vL (-1))) sh (ν) (μ)))) :
    X mX9_ways 0 [(0, vR 0), (1, vI x1), (2, vI x2), (3, vI x3)] [] sh ν μ 0 0 Q := by
  refine X.iload_n (pc := 0) (i := 1) 1 dX9_ways_0 rfl rfl ?_
  refine X.callS (pc := 1) (vs := [vI x1]) (st := []) dX9_ways_1 rfl okM_X9_isName rfl lk_X9_65 stat_X9_isName ⟨⟨by decide, by decide⟩, ⟨by decide, by decide⟩, Nat.le_of_ble_eq_true rfl⟩ (Nat.le_of_ble_eq_true rfl) (c_X9_isName hW ?_)
  refine X.nrm (pc' := 4) (ls' := [(0, vR 0), (1, vI x1), (2, vI x2), (3, vI x3)]) (st' := [vI (bI (0 ≤ x1 ∧ x1 ≤ 7))]) (k' := 0) (n' := 0) rfl rfl rfl rfl rfl ?_
  refine X.if_ne (pc := 4) 11 dX9_ways_4 (by decide) ⟨fun q9 => ?_, fun q9 => ?_⟩
  · have h := h.1 (bI_ne.mp q9)
    refine X.iload_n (pc := 11) (i := 2) 2 dX9_ways_11 rfl rfl ?_
    refine X.iload_n (pc := 12) (i := 3) 3 dX9_ways_12 rfl rfl ?_
    refine X.callS (pc := 13) (vs := [vI x2, vI x3]) (st := []) dX9_ways_13 rfl okM_X9_isScope rfl lk_X9_141 stat_X9_isScope ⟨⟨by decide, by decide⟩, ⟨by decide, by decide⟩, Nat.le_of_ble_eq_true rfl⟩ (Nat.le_of_ble_eq_true rfl) (c_X9_isScope hW ?_)
    refine X.nrm (pc' := 16) (ls' := [(0, vR 0), (1, vI x1), (2, vI x2), (3, vI x3)]) (st' := [vI (bI ((1 ≤ x2 ∧ x2 ≤ 20) ∧ 1 ≤ x3 ∧ x3 ≤ 20))]) (k' := 0) (n' := 0) rfl rfl rfl rfl rfl ?_
    refine X.if_ne (pc := 16) 23 dX9_ways_16 (by decide) ⟨fun q9 => ?_, fun q9 => ?_⟩
    · have h := h.1 (bI_ne.mp q9)
      refine X.aload_n (pc := 23) (i := 0) 0 dX9_ways_23 rfl rfl ?_
      refine X.getR (pc := 24) (b := 213) dX9_ways_24 fl_X9_35 rfl (fs_X9 hW) (fp_X9_3 hW) ?_
      refine X.aload_n (pc := 27) (i := 0) 0 dX9_ways_27 rfl rfl ?_
      refine X.getR (pc := 28) (b := 213) dX9_ways_28 fl_X9_35 rfl (fs_X9 hW) (fp_X9_3 hW) ?_
      refine X.iload_n (pc := 31) (i := 1) 1 dX9_ways_31 rfl rfl ?_
      refine X.iconst (pc := 32) dX9_ways_32 ⟨by decide, by decide⟩ ?_
      refine X.iconst (pc := 33) dX9_ways_33 ⟨by decide, by decide⟩ ?_
      refine X.iload_n (pc := 34) (i := 2) 2 dX9_ways_34 rfl rfl ?_
      refine X.iload_n (pc := 35) (i := 3) 3 dX9_ways_35 rfl rfl ?_
      refine X.pick [] rfl ?_
      exact X.callV (pc := 36) (vs := [vI x1, vI 0, vI 0, vI x2, vI x3]) (st := [vR 213]) dX9_ways_36 rfl okM_X1_settle rfl lk_X9_193 inst_X1_settle sel_X1_settle (fs_X1 hW mk_free) rfl ⟨⟨by decide, by decide⟩, ⟨by decide, by decide⟩, Nat.le_of_ble_eq_true rfl⟩ (Nat.le_of_ble_eq_true rfl) h
    · have h := h.2 (bI_eq.mp q9)
      refine X.ldc2 (pc := 19) (y := -2) dX9_ways_19 kc_X9_191 rfl ⟨by decide, by decide⟩ ?_
      exact X.lret (pc := 22) dX9_ways_22 rfl (Nat.le_of_ble_eq_true rfl) (Nat.le_of_ble_eq_true rfl) h
  · have h := h.2 (bI_eq.mp q9)
    refine X.ldc2 (pc := 7) (y := -1) dX9_ways_7 kc_X9_189 rfl ⟨by decide, by decide⟩ ?_
    exact X.lret (pc := 10) dX9_ways_10 rfl (Nat.le_of_ble_eq_true rfl) (Nat.le_of_ble_eq_true rfl) h

theorem g_X9_ways_39 {sh : List (Nat × Nat)} {ν : Nat → Nat → Option Nat} {μ : Nat → Nat → Int} {f s : Nat} {Q : xQ} (hW : WF sh ν f s) {q0 : Nat} (hq0 : isChart q0) {y1 : Int}
    (h : Q (some (vL (rdO ((μ) (q0 + 15) (Int.toNat y1)) 0 y1 (nsp q0 * nsp q0 * 8)))) sh (ν) (μ)) :
    X mX9_ways 39 [] [vI y1, vR q0] sh ν μ 0 0 Q := by
  refine X.callV (pc := 39) (vs := [vI y1]) (st := []) dX9_ways_39 rfl okM_X1_waysOf rfl lk_X9_197 inst_X1_waysOf sel_X1_waysOf (fs_X1 hW hq0) rfl ⟨⟨by decide, by decide⟩, ⟨by decide, by decide⟩, Nat.le_of_ble_eq_true rfl⟩ (Nat.le_of_ble_eq_true rfl) (c_X1_waysOf hW hq0 ?_)
  refine X.nrm (pc' := 42) (ls' := []) (st' := [vL (rdO ((μ) (q0 + 15) (Int.toNat y1)) 0 y1 (nsp q0 * nsp q0 * 8))]) (k' := 0) (n' := 0) rfl rfl rfl rfl rfl ?_
  exact X.lret (pc := 42) dX9_ways_42 rfl (Nat.le_of_ble_eq_true rfl) (Nat.le_of_ble_eq_true rfl) h

theorem g_X9_least_0 {sh : List (Nat × Nat)} {ν : Nat → Nat → Option Nat} {μ : Nat → Nat → Int} {f s : Nat} {Q : xQ} (hW : WF sh ν f s) {x1 : Int} {x2 : Int} {x3 : Int}
    (h : (((0 ≤ x1 ∧ x1 ≤ 7) → ((((1 ≤ x2 ∧ x2 ≤ 20) ∧ 1 ≤ x3 ∧ x3 ≤ 20) → X mX1_settle 0 [(0, vR 213), (1, vI x1), (2, vI 0), (3, vI 0), (4, vI x2), (5, vI x3)] [] sh (ν) (μ) 0 0 (fun v sh' ν' μ' => X mX9_least 36 [] (v.toList ++ [vR 213]) sh' ν' μ' 0 0 Q)) ∧ (¬ ((1 ≤ x2 ∧ x2 ≤ 20) ∧ 1 ≤ x3 ∧ x3 ≤ 20) → Q (some (vI (-2))) sh (ν) (μ)))) ∧ (¬ (0 ≤ x1 ∧ x1 ≤ 7) → Q (some (vI (-1))) sh (ν) (μ)))) :
    X mX9_least 0 [(0, vR 0), (1, vI x1), (2, vI x2), (3, vI x3)] [] sh ν μ 0 0 Q := by
  refine X.iload_n (pc := 0) (i := 1) 1 dX9_least_0 rfl rfl ?_
  refine X.callS (pc := 1) (vs := [vI x1]) (st := []) dX9_least_1 rfl okM_X9_isName rfl lk_X9_65 stat_X9_isName ⟨⟨by decide, by decide⟩, ⟨by decide, by decide⟩, Nat.le_of_ble_eq_true rfl⟩ (Nat.le_of_ble_eq_true rfl) (c_X9_isName hW ?_)
  refine X.nrm (pc' := 4) (ls' := [(0, vR 0), (1, vI x1), (2, vI x2), (3, vI x3)]) (st' := [vI (bI (0 ≤ x1 ∧ x1 ≤ 7))]) (k' := 0) (n' := 0) rfl rfl rfl rfl rfl ?_
  refine X.if_ne (pc := 4) 9 dX9_least_4 (by decide) ⟨fun q9 => ?_, fun q9 => ?_⟩
  · have h := h.1 (bI_ne.mp q9)
    refine X.iload_n (pc := 9) (i := 2) 2 dX9_least_9 rfl rfl ?_
    refine X.iload_n (pc := 10) (i := 3) 3 dX9_least_10 rfl rfl ?_
    refine X.callS (pc := 11) (vs := [vI x2, vI x3]) (st := []) dX9_least_11 rfl okM_X9_isScope rfl lk_X9_141 stat_X9_isScope ⟨⟨by decide, by decide⟩, ⟨by decide, by decide⟩, Nat.le_of_ble_eq_true rfl⟩ (Nat.le_of_ble_eq_true rfl) (c_X9_isScope hW ?_)
    refine X.nrm (pc' := 14) (ls' := [(0, vR 0), (1, vI x1), (2, vI x2), (3, vI x3)]) (st' := [vI (bI ((1 ≤ x2 ∧ x2 ≤ 20) ∧ 1 ≤ x3 ∧ x3 ≤ 20))]) (k' := 0) (n' := 0) rfl rfl rfl rfl rfl ?_
    refine X.if_ne (pc := 14) 20 dX9_least_14 (by decide) ⟨fun q9 => ?_, fun q9 => ?_⟩
    · have h := h.1 (bI_ne.mp q9)
      refine X.aload_n (pc := 20) (i := 0) 0 dX9_least_20 rfl rfl ?_
      refine X.getR (pc := 21) (b := 213) dX9_least_21 fl_X9_35 rfl (fs_X9 hW) (fp_X9_3 hW) ?_
      refine X.aload_n (pc := 24) (i := 0) 0 dX9_least_24 rfl rfl ?_
      refine X.getR (pc := 25) (b := 213) dX9_least_25 fl_X9_35 rfl (fs_X9 hW) (fp_X9_3 hW) ?_
      refine X.iload_n (pc := 28) (i := 1) 1 dX9_least_28 rfl rfl ?_
      refine X.iconst (pc := 29) dX9_least_29 ⟨by decide, by decide⟩ ?_
      refine X.iconst (pc := 30) dX9_least_30 ⟨by decide, by decide⟩ ?_
      refine X.iload_n (pc := 31) (i := 2) 2 dX9_least_31 rfl rfl ?_
      refine X.iload_n (pc := 32) (i := 3) 3 dX9_least_32 rfl rfl ?_
      refine X.pick [] rfl ?_
      exact X.callV (pc := 33) (vs := [vI x1, vI 0, vI 0, vI x2, vI x3]) (st := [vR 213]) dX9_least_33 rfl okM_X1_settle rfl lk_X9_193 inst_X1_settle sel_X1_settle (fs_X1 hW mk_free) rfl ⟨⟨by decide, by decide⟩, ⟨by decide, by decide⟩, Nat.le_of_ble_eq_true rfl⟩ (Nat.le_of_ble_eq_true rfl) h
    · have h := h.2 (bI_eq.mp q9)
      refine X.bipush (pc := 17) (y := -2) dX9_least_17 rfl ⟨by decide, by decide⟩ ?_
      exact X.iret (pc := 19) dX9_least_19 rfl (Nat.le_of_ble_eq_true rfl) (Nat.le_of_ble_eq_true rfl) h
  · have h := h.2 (bI_eq.mp q9)
    refine X.iconst (pc := 7) dX9_least_7 ⟨by decide, by decide⟩ ?_
    exact X.iret (pc := 8) dX9_least_8 rfl (Nat.le_of_ble_eq_true rfl) (Nat.le_of_ble_eq_true rfl) h

theorem g_X9_least_36 {sh : List (Nat × Nat)} {ν : Nat → Nat → Option Nat} {μ : Nat → Nat → Int} {f s : Nat} {Q : xQ} (hW : WF sh ν f s) {q0 : Nat} (hq0 : isChart q0) {y1 : Int}
    (h : X mX1_costOf 0 [(0, vR q0), (1, vI y1)] [] sh (ν) (μ) 0 0 (fun v sh' ν' μ' => X mX9_least 39 [] (v.toList ++ []) sh' ν' μ' 0 0 Q)) :
    X mX9_least 36 [] [vI y1, vR q0] sh ν μ 0 0 Q := by
  exact X.callV (pc := 36) (vs := [vI y1]) (st := []) dX9_least_36 rfl okM_X1_costOf rfl lk_X9_201 inst_X1_costOf sel_X1_costOf (fs_X1 hW hq0) rfl ⟨⟨by decide, by decide⟩, ⟨by decide, by decide⟩, Nat.le_of_ble_eq_true rfl⟩ (Nat.le_of_ble_eq_true rfl) h

theorem g_X9_least_39 {sh : List (Nat × Nat)} {ν : Nat → Nat → Option Nat} {μ : Nat → Nat → Int} {f s : Nat} {Q : xQ} (hW : WF sh ν f s) {y0 : Int}
    (h : Q (some (vI y0)) sh (ν) (μ)) :
    X mX9_least 39 [] [vI y0] sh ν μ 0 0 Q := by
  exact X.iret (pc := 39) dX9_least_39 rfl (Nat.le_of_ble_eq_true rfl) (Nat.le_of_ble_eq_true rfl) h

theorem g_X9_board_0 {sh : List (Nat × Nat)} {ν : Nat → Nat → Option Nat} {μ : Nat → Nat → Int} {f s : Nat} {Q : xQ} (hW : WF sh ν f s) {x1 : Int} {x2 : Int}
    (h : ((¬ (1 ≤ x1 ∧ x1 ≤ 9) → Q (some (vI (-2))) sh (ν) (μ)) ∧ ((1 ≤ x1 ∧ x1 ≤ 9) → (((1 ≤ x2 ∧ x2 ≤ 9) → X mX0_begin 0 [(0, vR 211), (1, vI x1), (2, vI x2)] [] sh (ν) (μ) 0 0 (fun v sh' ν' μ' => X mX9_board 32 [(0, vR 0)] (v.toList ++ []) sh' ν' μ' 0 0 Q)) ∧ (¬ (1 ≤ x2 ∧ x2 ≤ 9) → Q (some (vI (-2))) sh (ν) (μ)))))) :
    X mX9_board 0 [(0, vR 0), (1, vI x1), (2, vI x2)] [] sh ν μ 0 0 Q := by
  refine X.iload_n (pc := 0) (i := 1) 1 dX9_board_0 rfl rfl ?_
  refine X.iconst (pc := 1) dX9_board_1 ⟨by decide, by decide⟩ ?_
  refine X.bipush (pc := 2) (y := 9) dX9_board_2 rfl ⟨by decide, by decide⟩ ?_
  refine X.callS (pc := 4) (vs := [vI x1, vI 1, vI 9]) (st := []) dX9_board_4 rfl okM_X9_isWithin rfl lk_X9_69 stat_X9_isWithin ⟨⟨by decide, by decide⟩, ⟨by decide, by decide⟩, Nat.le_of_ble_eq_true rfl⟩ (Nat.le_of_ble_eq_true rfl) (c_X9_isWithin hW ?_)
  refine X.nrm (pc' := 7) (ls' := [(0, vR 0), (1, vI x1), (2, vI x2)]) (st' := [vI (bI (1 ≤ x1 ∧ x1 ≤ 9))]) (k' := 0) (n' := 0) rfl rfl rfl rfl rfl ?_
  refine X.if_eq (pc := 7) 20 dX9_board_7 (by decide) ⟨fun q9 => ?_, fun q9 => ?_⟩
  · have h := h.1 (bI_eq.mp q9)
    refine X.bipush (pc := 20) (y := -2) dX9_board_20 rfl ⟨by decide, by decide⟩ ?_
    exact X.iret (pc := 22) dX9_board_22 rfl (Nat.le_of_ble_eq_true rfl) (Nat.le_of_ble_eq_true rfl) h
  · have h := h.2 (bI_ne.mp q9)
    refine X.iload_n (pc := 10) (i := 2) 2 dX9_board_10 rfl rfl ?_
    refine X.iconst (pc := 11) dX9_board_11 ⟨by decide, by decide⟩ ?_
    refine X.bipush (pc := 12) (y := 9) dX9_board_12 rfl ⟨by decide, by decide⟩ ?_
    refine X.callS (pc := 14) (vs := [vI x2, vI 1, vI 9]) (st := []) dX9_board_14 rfl okM_X9_isWithin rfl lk_X9_69 stat_X9_isWithin ⟨⟨by decide, by decide⟩, ⟨by decide, by decide⟩, Nat.le_of_ble_eq_true rfl⟩ (Nat.le_of_ble_eq_true rfl) (c_X9_isWithin hW ?_)
    refine X.nrm (pc' := 17) (ls' := [(0, vR 0), (1, vI x1), (2, vI x2)]) (st' := [vI (bI (1 ≤ x2 ∧ x2 ≤ 9))]) (k' := 0) (n' := 0) rfl rfl rfl rfl rfl ?_
    refine X.if_ne (pc := 17) 23 dX9_board_17 (by decide) ⟨fun q9 => ?_, fun q9 => ?_⟩
    · have h := h.1 (bI_ne.mp q9)
      refine X.aload_n (pc := 23) (i := 0) 0 dX9_board_23 rfl rfl ?_
      refine X.getR (pc := 24) (b := 211) dX9_board_24 fl_X9_26 rfl (fs_X9 hW) (fp_X9_2 hW) ?_
      refine X.iload_n (pc := 27) (i := 1) 1 dX9_board_27 rfl rfl ?_
      refine X.iload_n (pc := 28) (i := 2) 2 dX9_board_28 rfl rfl ?_
      refine X.pick [0] rfl ?_
      exact X.callV (pc := 29) (vs := [vI x1, vI x2]) (st := []) dX9_board_29 rfl okM_X0_begin rfl lk_X9_179 inst_X0_begin sel_X0_begin (fs_X0 hW) rfl ⟨⟨by decide, by decide⟩, ⟨by decide, by decide⟩, Nat.le_of_ble_eq_true rfl⟩ (Nat.le_of_ble_eq_true rfl) h
    · have h := h.2 (bI_eq.mp q9)
      refine X.bipush (pc := 20) (y := -2) dX9_board_20 rfl ⟨by decide, by decide⟩ ?_
      exact X.iret (pc := 22) dX9_board_22 rfl (Nat.le_of_ble_eq_true rfl) (Nat.le_of_ble_eq_true rfl) h

theorem g_X9_board_32 {sh : List (Nat × Nat)} {ν : Nat → Nat → Option Nat} {μ : Nat → Nat → Int} {f s : Nat} {Q : xQ} (hW : WF sh ν f s) 
    (h : Q (some (vI 1)) sh (ν) (up μ 231 13 1)) :
    X mX9_board 32 [(0, vR 0)] [] sh ν μ 0 0 Q := by
  refine X.aload_n (pc := 32) (i := 0) 0 dX9_board_32 rfl rfl ?_
  refine X.getR (pc := 33) (b := 231) dX9_board_33 fl_X9_39 rfl (fs_X9 hW) (fp_X9_4 hW) ?_
  refine X.iconst (pc := 36) dX9_board_36 ⟨by decide, by decide⟩ ?_
  refine X.putI (pc := 37) dX9_board_37 fl_X9_185 rfl (fun h9 => by cases h9) (fs_X1 hW mk_bound) (Or.inr (Or.inr rfl)) ?_
  refine X.iconst (pc := 40) dX9_board_40 ⟨by decide, by decide⟩ ?_
  exact X.iret (pc := 41) dX9_board_41 rfl (Nat.le_of_ble_eq_true rfl) (Nat.le_of_ble_eq_true rfl) h

theorem g_X9_parses_0 {sh : List (Nat × Nat)} {ν : Nat → Nat → Option Nat} {μ : Nat → Nat → Int} {f s : Nat} {Q : xQ} (hW : WF sh ν f s) 
    (h : X mX9_settleBoard 0 [(0, vR 0)] [] sh (ν) (μ) 0 0 (fun v sh' ν' μ' => X mX9_parses 8 [] (v.toList ++ [vR 231]) sh' ν' μ' 0 0 Q)) :
    X mX9_parses 0 [(0, vR 0)] [] sh ν μ 0 0 Q := by
  refine X.aload_n (pc := 0) (i := 0) 0 dX9_parses_0 rfl rfl ?_
  refine X.getR (pc := 1) (b := 231) dX9_parses_1 fl_X9_39 rfl (fs_X9 hW) (fp_X9_4 hW) ?_
  refine X.aload_n (pc := 4) (i := 0) 0 dX9_parses_4 rfl rfl ?_
  refine X.pick [] rfl ?_
  exact X.callV (pc := 5) (vs := []) (st := [vR 231]) dX9_parses_5 rfl okM_X9_settleBoard rfl lk_X9_209 inst_X9_settleBoard sel_X9_settleBoard (fs_X9 hW) rfl ⟨⟨by decide, by decide⟩, ⟨by decide, by decide⟩, Nat.le_of_ble_eq_true rfl⟩ (Nat.le_of_ble_eq_true rfl) h

theorem g_X9_parses_8 {sh : List (Nat × Nat)} {ν : Nat → Nat → Option Nat} {μ : Nat → Nat → Int} {f s : Nat} {Q : xQ} (hW : WF sh ν f s) {q0 : Nat} (hq0 : isChart q0) {y1 : Int}
    (h : Q (some (vL (rdO ((μ) (q0 + 15) (Int.toNat y1)) 0 y1 (nsp q0 * nsp q0 * 8)))) sh (ν) (μ)) :
    X mX9_parses 8 [] [vI y1, vR q0] sh ν μ 0 0 Q := by
  refine X.callV (pc := 8) (vs := [vI y1]) (st := []) dX9_parses_8 rfl okM_X1_waysOf rfl lk_X9_197 inst_X1_waysOf sel_X1_waysOf (fs_X1 hW hq0) rfl ⟨⟨by decide, by decide⟩, ⟨by decide, by decide⟩, Nat.le_of_ble_eq_true rfl⟩ (Nat.le_of_ble_eq_true rfl) (c_X1_waysOf hW hq0 ?_)
  refine X.nrm (pc' := 11) (ls' := []) (st' := [vL (rdO ((μ) (q0 + 15) (Int.toNat y1)) 0 y1 (nsp q0 * nsp q0 * 8))]) (k' := 0) (n' := 0) rfl rfl rfl rfl rfl ?_
  exact X.lret (pc := 11) dX9_parses_11 rfl (Nat.le_of_ble_eq_true rfl) (Nat.le_of_ble_eq_true rfl) h

theorem g_X9_best_0 {sh : List (Nat × Nat)} {ν : Nat → Nat → Option Nat} {μ : Nat → Nat → Int} {f s : Nat} {Q : xQ} (hW : WF sh ν f s) 
    (h : X mX9_settleBoard 0 [(0, vR 0)] [] sh (ν) (μ) 0 0 (fun v sh' ν' μ' => X mX9_best 8 [] (v.toList ++ [vR 231]) sh' ν' μ' 0 0 Q)) :
    X mX9_best 0 [(0, vR 0)] [] sh ν μ 0 0 Q := by
  refine X.aload_n (pc := 0) (i := 0) 0 dX9_best_0 rfl rfl ?_
  refine X.getR (pc := 1) (b := 231) dX9_best_1 fl_X9_39 rfl (fs_X9 hW) (fp_X9_4 hW) ?_
  refine X.aload_n (pc := 4) (i := 0) 0 dX9_best_4 rfl rfl ?_
  refine X.pick [] rfl ?_
  exact X.callV (pc := 5) (vs := []) (st := [vR 231]) dX9_best_5 rfl okM_X9_settleBoard rfl lk_X9_209 inst_X9_settleBoard sel_X9_settleBoard (fs_X9 hW) rfl ⟨⟨by decide, by decide⟩, ⟨by decide, by decide⟩, Nat.le_of_ble_eq_true rfl⟩ (Nat.le_of_ble_eq_true rfl) h

theorem g_X9_best_8 {sh : List (Nat × Nat)} {ν : Nat → Nat → Option Nat} {μ : Nat → Nat → Int} {f s : Nat} {Q : xQ} (hW : WF sh ν f s) {q0 : Nat} (hq0 : isChart q0) {y1 : Int}
    (h : X mX1_costOf 0 [(0, vR q0), (1, vI y1)] [] sh (ν) (μ) 0 0 (fun v sh' ν' μ' => X mX9_best 11 [] (v.toList ++ []) sh' ν' μ' 0 0 Q)) :
    X mX9_best 8 [] [vI y1, vR q0] sh ν μ 0 0 Q := by
  exact X.callV (pc := 8) (vs := [vI y1]) (st := []) dX9_best_8 rfl okM_X1_costOf rfl lk_X9_201 inst_X1_costOf sel_X1_costOf (fs_X1 hW hq0) rfl ⟨⟨by decide, by decide⟩, ⟨by decide, by decide⟩, Nat.le_of_ble_eq_true rfl⟩ (Nat.le_of_ble_eq_true rfl) h

theorem g_X9_best_11 {sh : List (Nat × Nat)} {ν : Nat → Nat → Option Nat} {μ : Nat → Nat → Int} {f s : Nat} {Q : xQ} (hW : WF sh ν f s) {y0 : Int}
    (h : Q (some (vI y0)) sh (ν) (μ)) :
    X mX9_best 11 [] [vI y0] sh ν μ 0 0 Q := by
  exact X.iret (pc := 11) dX9_best_11 rfl (Nat.le_of_ble_eq_true rfl) (Nat.le_of_ble_eq_true rfl) h

theorem g_X9_bestStep_0 {sh : List (Nat × Nat)} {ν : Nat → Nat → Option Nat} {μ : Nat → Nat → Int} {f s : Nat} {Q : xQ} (hW : WF sh ν f s) {x1 : Int}
    (h : ((x1 < 0 → Q (some (vI (-9))) sh (ν) (μ)) ∧ (0 ≤ x1 → X mX9_settleBoard 0 [(0, vR 0)] [] sh (ν) (μ) 0 0 (fun v sh' ν' μ' => X mX9_bestStep 13 [(0, vR 0), (1, vI x1)] (v.toList ++ [vR 231, vI x1]) sh' ν' μ' 0 0 Q)))) :
    X mX9_bestStep 0 [(0, vR 0), (1, vI x1)] [] sh ν μ 0 0 Q := by
  refine X.iload_n (pc := 0) (i := 1) 1 dX9_bestStep_0 rfl rfl ?_
  refine X.if_lt (pc := 1) 19 dX9_bestStep_1 (by decide) ⟨fun q9 => ?_, fun q9 => ?_⟩
  · have h := h.1 q9
    refine X.bipush (pc := 19) (y := -9) dX9_bestStep_19 rfl ⟨by decide, by decide⟩ ?_
    exact X.iret (pc := 21) dX9_bestStep_21 rfl (Nat.le_of_ble_eq_true rfl) (Nat.le_of_ble_eq_true rfl) h
  · have h := h.2 q9
    refine X.iload_n (pc := 4) (i := 1) 1 dX9_bestStep_4 rfl rfl ?_
    refine X.aload_n (pc := 5) (i := 0) 0 dX9_bestStep_5 rfl rfl ?_
    refine X.getR (pc := 6) (b := 231) dX9_bestStep_6 fl_X9_39 rfl (fs_X9 hW) (fp_X9_4 hW) ?_
    refine X.aload_n (pc := 9) (i := 0) 0 dX9_bestStep_9 rfl rfl ?_
    exact X.callV (pc := 10) (vs := []) (st := [vR 231, vI x1]) dX9_bestStep_10 rfl okM_X9_settleBoard rfl lk_X9_209 inst_X9_settleBoard sel_X9_settleBoard (fs_X9 hW) rfl ⟨⟨by decide, by decide⟩, ⟨by decide, by decide⟩, Nat.le_of_ble_eq_true rfl⟩ (Nat.le_of_ble_eq_true rfl) h

theorem g_X9_bestStep_13 {sh : List (Nat × Nat)} {ν : Nat → Nat → Option Nat} {μ : Nat → Nat → Int} {f s : Nat} {Q : xQ} (hW : WF sh ν f s) {x1 : Int} {y0 : Int} {q1 : Nat} (hq1 : isChart q1) {y2 : Int}
    (h : X mX1_stepsOf 0 [(0, vR q1), (1, vI y2)] [] sh (ν) (μ) 0 0 (fun v sh' ν' μ' => X mX9_bestStep 16 [(0, vR 0), (1, vI x1)] (v.toList ++ [vI y0]) sh' ν' μ' 0 0 Q)) :
    X mX9_bestStep 13 [(0, vR 0), (1, vI x1)] [vI y2, vR q1, vI y0] sh ν μ 0 0 Q := by
  exact X.callV (pc := 13) (vs := [vI y2]) (st := [vI y0]) dX9_bestStep_13 rfl okM_X1_stepsOf rfl lk_X9_213 inst_X1_stepsOf sel_X1_stepsOf (fs_X1 hW hq1) rfl ⟨⟨by decide, by decide⟩, ⟨by decide, by decide⟩, Nat.le_of_ble_eq_true rfl⟩ (Nat.le_of_ble_eq_true rfl) h

theorem g_X9_bestStep_16 {sh : List (Nat × Nat)} {ν : Nat → Nat → Option Nat} {μ : Nat → Nat → Int} {f s : Nat} {Q : xQ} (hW : WF sh ν f s) {x1 : Int} {y0 : Int} {y1 : Int}
    (h : ((y0 < y1 → X mX8_begin 0 [(0, vR 249), (1, vI ((μ) 211 1)), (2, vI ((μ) 211 2)), (3, vI 0)] [] sh (ν) (μ) 0 0 (fun v sh' ν' μ' => X mX9_bestStep 44 [(0, vR 0), (1, vI x1)] (v.toList ++ []) sh' ν' μ' 0 0 Q)) ∧ (y1 ≤ y0 → Q (some (vI (-9))) sh (ν) (μ)))) :
    X mX9_bestStep 16 [(0, vR 0), (1, vI x1)] [vI y1, vI y0] sh ν μ 0 0 Q := by
  refine X.icmp_lt (pc := 16) 22 dX9_bestStep_16 (by decide) ⟨fun q9 => ?_, fun q9 => ?_⟩
  · have h := h.1 q9
    refine X.aload_n (pc := 22) (i := 0) 0 dX9_bestStep_22 rfl rfl ?_
    refine X.getR (pc := 23) (b := 249) dX9_bestStep_23 fl_X9_47 rfl (fs_X9 hW) (fp_X9_5 hW) ?_
    refine X.aload_n (pc := 26) (i := 0) 0 dX9_bestStep_26 rfl rfl ?_
    refine X.getR (pc := 27) (b := 211) dX9_bestStep_27 fl_X9_26 rfl (fs_X9 hW) (fp_X9_2 hW) ?_
    refine X.getI (pc := 30) dX9_bestStep_30 fl_X9_216 rfl (fs_X0 hW) ?_
    refine X.aload_n (pc := 33) (i := 0) 0 dX9_bestStep_33 rfl rfl ?_
    refine X.getR (pc := 34) (b := 211) dX9_bestStep_34 fl_X9_26 rfl (fs_X9 hW) (fp_X9_2 hW) ?_
    refine X.getI (pc := 37) dX9_bestStep_37 fl_X9_217 rfl (fs_X0 hW) ?_
    refine X.iconst (pc := 40) dX9_bestStep_40 ⟨by decide, by decide⟩ ?_
    exact X.callV (pc := 41) (vs := [vI ((μ) 211 1), vI ((μ) 211 2), vI 0]) (st := []) dX9_bestStep_41 rfl okM_X8_begin rfl lk_X9_218 inst_X8_begin sel_X8_begin (fs_X8 hW) rfl ⟨⟨by decide, by decide⟩, ⟨by decide, by decide⟩, Nat.le_of_ble_eq_true rfl⟩ (Nat.le_of_ble_eq_true rfl) h
  · have h := h.2 q9
    refine X.bipush (pc := 19) (y := -9) dX9_bestStep_19 rfl ⟨by decide, by decide⟩ ?_
    exact X.iret (pc := 21) dX9_bestStep_21 rfl (Nat.le_of_ble_eq_true rfl) (Nat.le_of_ble_eq_true rfl) h

theorem g_X9_bestStep_44 {sh : List (Nat × Nat)} {ν : Nat → Nat → Option Nat} {μ : Nat → Nat → Int} {f s : Nat} {Q : xQ} (hW : WF sh ν f s) {x1 : Int}
    (h : X mX9_bestStep 46 [(0, vR 0), (1, vI x1), (2, vI 0)] [] sh (ν) (μ) 0 0 Q) :
    X mX9_bestStep 44 [(0, vR 0), (1, vI x1)] [] sh ν μ 0 0 Q := by
  refine X.iconst (pc := 44) dX9_bestStep_44 ⟨by decide, by decide⟩ ?_
  refine X.istore_n (pc := 45) (i := 2) (ls' := [(2, vI 0), (0, vR 0), (1, vI x1)]) dX9_bestStep_45 rfl (by decide) rfl ?_
  exact X.pick [1, 2, 0] rfl h

theorem g_X9_bestStep_46 {sh : List (Nat × Nat)} {ν : Nat → Nat → Option Nat} {μ : Nat → Nat → Int} {f s : Nat} {Q : xQ} (hW : WF sh ν f s) {x1 : Int} {x2 : Int}
    (h : ((x1 < x2 → Q (some (vI (-9))) sh (ν) (μ)) ∧ (x2 ≤ x1 → X mX8_next 0 [(0, vR 249)] [] sh (ν) (μ) 0 0 (fun v sh' ν' μ' => X mX9_bestStep 58 [(0, vR 0), (1, vI x1), (2, vI x2)] (v.toList ++ []) sh' ν' μ' 0 0 Q)))) :
    X mX9_bestStep 46 [(0, vR 0), (1, vI x1), (2, vI x2)] [] sh ν μ 0 0 Q := by
  refine X.iload_n (pc := 46) (i := 2) 2 dX9_bestStep_46 rfl rfl ?_
  refine X.iload_n (pc := 47) (i := 1) 1 dX9_bestStep_47 rfl rfl ?_
  refine X.icmp_gt (pc := 48) 154 dX9_bestStep_48 (by decide) ⟨fun q9 => ?_, fun q9 => ?_⟩
  · have h := h.1 q9
    refine X.bipush (pc := 154) (y := -9) dX9_bestStep_154 rfl ⟨by decide, by decide⟩ ?_
    exact X.iret (pc := 156) dX9_bestStep_156 rfl (Nat.le_of_ble_eq_true rfl) (Nat.le_of_ble_eq_true rfl) h
  · have h := h.2 q9
    refine X.aload_n (pc := 51) (i := 0) 0 dX9_bestStep_51 rfl rfl ?_
    refine X.getR (pc := 52) (b := 249) dX9_bestStep_52 fl_X9_47 rfl (fs_X9 hW) (fp_X9_5 hW) ?_
    exact X.callV (pc := 55) (vs := []) (st := []) dX9_bestStep_55 rfl okM_X8_next rfl lk_X9_220 inst_X8_next sel_X8_next (fs_X8 hW) rfl ⟨⟨by decide, by decide⟩, ⟨by decide, by decide⟩, Nat.le_of_ble_eq_true rfl⟩ (Nat.le_of_ble_eq_true rfl) h

theorem g_X9_bestStep_58 {sh : List (Nat × Nat)} {ν : Nat → Nat → Option Nat} {μ : Nat → Nat → Int} {f s : Nat} {Q : xQ} (hW : WF sh ν f s) {x1 : Int} {x2 : Int} {y0 : Int}
    (h : ((y0 = 0 → Q (some (vI (-9))) sh (ν) (μ)) ∧ (y0 ≠ 0 → X mX1_settle 0 [(0, vR 231), (1, vI ((μ) 249 5)), (2, vI ((μ) 249 6)), (3, vI ((μ) 249 7)), (4, vI ((μ) 249 8)), (5, vI ((μ) 249 9))] [] sh (ν) (μ) 0 0 (fun v sh' ν' μ' => X mX9_bestStep 107 [(0, vR 0), (1, vI x1), (2, vI x2)] (v.toList ++ [vR 231]) sh' ν' μ' 0 0 Q)))) :
    X mX9_bestStep 58 [(0, vR 0), (1, vI x1), (2, vI x2)] [vI y0] sh ν μ 0 0 Q := by
  refine X.if_eq (pc := 58) 154 dX9_bestStep_58 (by decide) ⟨fun q9 => ?_, fun q9 => ?_⟩
  · have h := h.1 q9
    refine X.bipush (pc := 154) (y := -9) dX9_bestStep_154 rfl ⟨by decide, by decide⟩ ?_
    exact X.iret (pc := 156) dX9_bestStep_156 rfl (Nat.le_of_ble_eq_true rfl) (Nat.le_of_ble_eq_true rfl) h
  · have h := h.2 q9
    refine X.aload_n (pc := 61) (i := 0) 0 dX9_bestStep_61 rfl rfl ?_
    refine X.getR (pc := 62) (b := 231) dX9_bestStep_62 fl_X9_39 rfl (fs_X9 hW) (fp_X9_4 hW) ?_
    refine X.aload_n (pc := 65) (i := 0) 0 dX9_bestStep_65 rfl rfl ?_
    refine X.getR (pc := 66) (b := 231) dX9_bestStep_66 fl_X9_39 rfl (fs_X9 hW) (fp_X9_4 hW) ?_
    refine X.aload_n (pc := 69) (i := 0) 0 dX9_bestStep_69 rfl rfl ?_
    refine X.getR (pc := 70) (b := 249) dX9_bestStep_70 fl_X9_47 rfl (fs_X9 hW) (fp_X9_5 hW) ?_
    refine X.getI (pc := 73) dX9_bestStep_73 fl_X9_223 rfl (fs_X8 hW) ?_
    refine X.aload_n (pc := 76) (i := 0) 0 dX9_bestStep_76 rfl rfl ?_
    refine X.getR (pc := 77) (b := 249) dX9_bestStep_77 fl_X9_47 rfl (fs_X9 hW) (fp_X9_5 hW) ?_
    refine X.getI (pc := 80) dX9_bestStep_80 fl_X9_224 rfl (fs_X8 hW) ?_
    refine X.aload_n (pc := 83) (i := 0) 0 dX9_bestStep_83 rfl rfl ?_
    refine X.getR (pc := 84) (b := 249) dX9_bestStep_84 fl_X9_47 rfl (fs_X9 hW) (fp_X9_5 hW) ?_
    refine X.getI (pc := 87) dX9_bestStep_87 fl_X9_227 rfl (fs_X8 hW) ?_
    refine X.aload_n (pc := 90) (i := 0) 0 dX9_bestStep_90 rfl rfl ?_
    refine X.getR (pc := 91) (b := 249) dX9_bestStep_91 fl_X9_47 rfl (fs_X9 hW) (fp_X9_5 hW) ?_
    refine X.getI (pc := 94) dX9_bestStep_94 fl_X9_230 rfl (fs_X8 hW) ?_
    refine X.aload_n (pc := 97) (i := 0) 0 dX9_bestStep_97 rfl rfl ?_
    refine X.getR (pc := 98) (b := 249) dX9_bestStep_98 fl_X9_47 rfl (fs_X9 hW) (fp_X9_5 hW) ?_
    refine X.getI (pc := 101) dX9_bestStep_101 fl_X9_231 rfl (fs_X8 hW) ?_
    exact X.callV (pc := 104) (vs := [vI ((μ) 249 5), vI ((μ) 249 6), vI ((μ) 249 7), vI ((μ) 249 8), vI ((μ) 249 9)]) (st := [vR 231]) dX9_bestStep_104 rfl okM_X1_settle rfl lk_X9_193 inst_X1_settle sel_X1_settle (fs_X1 hW mk_bound) rfl ⟨⟨by decide, by decide⟩, ⟨by decide, by decide⟩, Nat.le_of_ble_eq_true rfl⟩ (Nat.le_of_ble_eq_true rfl) h

theorem g_X9_bestStep_107 {sh : List (Nat × Nat)} {ν : Nat → Nat → Option Nat} {μ : Nat → Nat → Int} {f s : Nat} {Q : xQ} (hW : WF sh ν f s) {x1 : Int} {x2 : Int} {q0 : Nat} (hq0 : isChart q0) {y1 : Int}
    (h : (((0 ≤ (rdO ((μ) (q0 + 17) (Int.toNat y1)) (-9) y1 (nsp q0 * nsp q0 * 8)) ∧ (rdO ((μ) (q0 + 17) (Int.toNat y1)) (-9) y1 (nsp q0 * nsp q0 * 8)) < (μ) 1 2) → ((x2 ≠ x1 → (0 ≤ (rdO ((μ) (q0 + 17) (Int.toNat y1)) (-9) y1 (nsp q0 * nsp q0 * 8)) ∧ (rdO ((μ) (q0 + 17) (Int.toNat y1)) (-9) y1 (nsp q0 * nsp q0 * 8)) < (40 : Nat)) ∧ X mX8_spread 0 [(0, vR 249), (1, vR (7 + 5 * (Int.toNat (rdO ((μ) (q0 + 17) (Int.toNat y1)) (-9) y1 (nsp q0 * nsp q0 * 8)))))] [] sh (ν) (μ) 0 0 (fun v sh' ν' μ' => X mX9_bestStep 148 [(0, vR 0), (1, vI x1), (2, vI x2)] (v.toList ++ []) sh' ν' μ' 0 0 Q)) ∧ (x2 = x1 → Q (some (vI (rdO ((μ) (q0 + 17) (Int.toNat y1)) (-9) y1 (nsp q0 * nsp q0 * 8)))) sh (ν) (μ)))) ∧ (¬ (0 ≤ (rdO ((μ) (q0 + 17) (Int.toNat y1)) (-9) y1 (nsp q0 * nsp q0 * 8)) ∧ (rdO ((μ) (q0 + 17) (Int.toNat y1)) (-9) y1 (nsp q0 * nsp q0 * 8)) < (μ) 1 2) → Q (some (vI (-9))) sh (ν) (μ)))) :
    X mX9_bestStep 107 [(0, vR 0), (1, vI x1), (2, vI x2)] [vI y1, vR q0] sh ν μ 0 0 Q := by
  refine X.callV (pc := 107) (vs := [vI y1]) (st := []) dX9_bestStep_107 rfl okM_X1_pickOf rfl lk_X9_232 inst_X1_pickOf sel_X1_pickOf (fs_X1 hW hq0) rfl ⟨⟨by decide, by decide⟩, ⟨by decide, by decide⟩, Nat.le_of_ble_eq_true rfl⟩ (Nat.le_of_ble_eq_true rfl) (c_X1_pickOf hW hq0 ?_)
  refine X.nrm (pc' := 110) (ls' := [(0, vR 0), (1, vI x1), (2, vI x2)]) (st' := [vI (rdO ((μ) (q0 + 17) (Int.toNat y1)) (-9) y1 (nsp q0 * nsp q0 * 8))]) (k' := 0) (n' := 0) rfl rfl rfl rfl rfl ?_
  refine X.istore_n (pc := 110) (i := 3) (ls' := [(3, vI (rdO ((μ) (q0 + 17) (Int.toNat y1)) (-9) y1 (nsp q0 * nsp q0 * 8))), (0, vR 0), (1, vI x1), (2, vI x2)]) dX9_bestStep_110 rfl (by decide) rfl ?_
  refine X.aload_n (pc := 111) (i := 0) 1 dX9_bestStep_111 rfl rfl ?_
  refine X.getR (pc := 112) (b := 1) dX9_bestStep_112 fl_X9_12 rfl (fs_X9 hW) (fp_X9_0 hW) ?_
  refine X.iload_n (pc := 115) (i := 3) 0 dX9_bestStep_115 rfl rfl ?_
  refine X.pick [1, 2, 3, 0] rfl ?_
  refine X.callV (pc := 116) (vs := [vI (rdO ((μ) (q0 + 17) (Int.toNat y1)) (-9) y1 (nsp q0 * nsp q0 * 8))]) (st := []) dX9_bestStep_116 rfl okM_X3_has rfl lk_X9_108 inst_X3_has sel_X3_has (fs_X3 hW) rfl ⟨⟨by decide, by decide⟩, ⟨by decide, by decide⟩, Nat.le_of_ble_eq_true rfl⟩ (Nat.le_of_ble_eq_true rfl) (c_X3_has hW ?_)
  refine X.nrm (pc' := 119) (ls' := [(0, vR 0), (1, vI x1), (2, vI x2), (3, vI (rdO ((μ) (q0 + 17) (Int.toNat y1)) (-9) y1 (nsp q0 * nsp q0 * 8)))]) (st' := [vI (bI (0 ≤ (rdO ((μ) (q0 + 17) (Int.toNat y1)) (-9) y1 (nsp q0 * nsp q0 * 8)) ∧ (rdO ((μ) (q0 + 17) (Int.toNat y1)) (-9) y1 (nsp q0 * nsp q0 * 8)) < (μ) 1 2))]) (k' := 0) (n' := 0) rfl rfl rfl rfl rfl ?_
  refine X.if_ne (pc := 119) 125 dX9_bestStep_119 (by decide) ⟨fun q9 => ?_, fun q9 => ?_⟩
  · have h := h.1 (bI_ne.mp q9)
    refine X.iload_n (pc := 125) (i := 2) 2 dX9_bestStep_125 rfl rfl ?_
    refine X.iload_n (pc := 126) (i := 1) 1 dX9_bestStep_126 rfl rfl ?_
    refine X.icmp_ne (pc := 127) 132 dX9_bestStep_127 (by decide) ⟨fun q9 => ?_, fun q9 => ?_⟩
    · have h := h.1 q9
      refine X.aload_n (pc := 132) (i := 0) 0 dX9_bestStep_132 rfl rfl ?_
      refine X.getR (pc := 133) (b := 249) dX9_bestStep_133 fl_X9_47 rfl (fs_X9 hW) (fp_X9_5 hW) ?_
      refine X.aload_n (pc := 136) (i := 0) 0 dX9_bestStep_136 rfl rfl ?_
      refine X.getR (pc := 137) (b := 1) dX9_bestStep_137 fl_X9_12 rfl (fs_X9 hW) (fp_X9_0 hW) ?_
      refine X.getR (pc := 140) (b := 2) dX9_bestStep_140 fl_X9_111 rfl (fs_X3 hW) (fp_X3_0 hW) ?_
      refine X.iload_n (pc := 143) (i := 3) 3 dX9_bestStep_143 rfl rfl ?_
      obtain ⟨c1, h⟩ := h
      refine X.aaload (pc := 144) dX9_bestStep_144 (fa_X3_0 hW) (Or.inl rfl) c1 (fe_rules hW c1) ?_
      refine X.pick [0, 1, 2] rfl ?_
      exact X.callV (pc := 145) (vs := [vR (7 + 5 * (Int.toNat (rdO ((μ) (q0 + 17) (Int.toNat y1)) (-9) y1 (nsp q0 * nsp q0 * 8))))]) (st := []) dX9_bestStep_145 rfl okM_X8_spread rfl lk_X9_235 inst_X8_spread sel_X8_spread (fs_X8 hW) rfl ⟨⟨by decide, by decide⟩, ⟨by decide, by decide⟩, Nat.le_of_ble_eq_true rfl⟩ (Nat.le_of_ble_eq_true rfl) h
    · have h := h.2 q9
      refine X.iload_n (pc := 130) (i := 3) 3 dX9_bestStep_130 rfl rfl ?_
      exact X.iret (pc := 131) dX9_bestStep_131 rfl (Nat.le_of_ble_eq_true rfl) (Nat.le_of_ble_eq_true rfl) h
  · have h := h.2 (bI_eq.mp q9)
    refine X.bipush (pc := 122) (y := -9) dX9_bestStep_122 rfl ⟨by decide, by decide⟩ ?_
    exact X.iret (pc := 124) dX9_bestStep_124 rfl (Nat.le_of_ble_eq_true rfl) (Nat.le_of_ble_eq_true rfl) h

theorem g_X9_bestStep_148 {sh : List (Nat × Nat)} {ν : Nat → Nat → Option Nat} {μ : Nat → Nat → Int} {f s : Nat} {Q : xQ} (hW : WF sh ν f s) {x1 : Int} {x2 : Int}
    (h : X mX9_bestStep 46 [(0, vR 0), (1, vI x1), (2, vI (w32 (x2 + 1)))] [] sh (ν) (μ) 0 0 Q) :
    X mX9_bestStep 148 [(0, vR 0), (1, vI x1), (2, vI x2)] [] sh ν μ 0 0 Q := by
  refine X.iinc (pc := 148) (i := 2) (ls' := [(2, vI (w32 (x2 + 1))), (0, vR 0), (1, vI x1)]) 2 dX9_bestStep_148 rfl (by decide) rfl ?_
  refine X.goto (pc := 151) (tgt := 46) dX9_bestStep_151 (by decide) ?_
  exact X.pick [1, 2, 0] rfl h

theorem g_X9_stands_0 {sh : List (Nat × Nat)} {ν : Nat → Nat → Option Nat} {μ : Nat → Nat → Int} {f s : Nat} {Q : xQ} (hW : WF sh ν f s) {x1 : Int} {x2 : Int} {x3 : Int} {x4 : Int}
    (h : ((¬ (0 ≤ x1 ∧ x1 ≤ 7) → Q (some (vL (-1))) sh (ν) (μ)) ∧ ((0 ≤ x1 ∧ x1 ≤ 7) → (((0 ≤ x2 ∧ x2 < 81 ∧ x2 % 9 < (μ) 211 1 ∧ x2 / 9 < (μ) 211 2) → ((¬ (1 ≤ x3 ∧ x3 ≤ (w32 (((μ) 211 1) - (w32 (Int.tmod x2 9))))) → Q (some (vL (-2))) sh (ν) (μ)) ∧ ((1 ≤ x3 ∧ x3 ≤ (w32 (((μ) 211 1) - (w32 (Int.tmod x2 9))))) → (((1 ≤ x4 ∧ x4 ≤ (w32 (((μ) 211 2) - (w32 (Int.tdiv x2 9))))) → X mX1_settle 0 [(0, vR 231), (1, vI x1), (2, vI (w32 (Int.tmod x2 9))), (3, vI (w32 (Int.tdiv x2 9))), (4, vI x3), (5, vI x4)] [] sh (ν) (μ) 0 0 (fun v sh' ν' μ' => X mX9_stands 94 [] (v.toList ++ [vR 231]) sh' ν' μ' 0 0 Q)) ∧ (¬ (1 ≤ x4 ∧ x4 ≤ (w32 (((μ) 211 2) - (w32 (Int.tdiv x2 9))))) → Q (some (vL (-2))) sh (ν) (μ)))))) ∧ (¬ (0 ≤ x2 ∧ x2 < 81 ∧ x2 % 9 < (μ) 211 1 ∧ x2 / 9 < (μ) 211 2) → Q (some (vL (-1))) sh (ν) (μ)))))) :
    X mX9_stands 0 [(0, vR 0), (1, vI x1), (2, vI x2), (3, vI x3), (4, vI x4)] [] sh ν μ 0 0 Q := by
  refine X.iload_n (pc := 0) (i := 1) 1 dX9_stands_0 rfl rfl ?_
  refine X.callS (pc := 1) (vs := [vI x1]) (st := []) dX9_stands_1 rfl okM_X9_isName rfl lk_X9_65 stat_X9_isName ⟨⟨by decide, by decide⟩, ⟨by decide, by decide⟩, Nat.le_of_ble_eq_true rfl⟩ (Nat.le_of_ble_eq_true rfl) (c_X9_isName hW ?_)
  refine X.nrm (pc' := 4) (ls' := [(0, vR 0), (1, vI x1), (2, vI x2), (3, vI x3), (4, vI x4)]) (st' := [vI (bI (0 ≤ x1 ∧ x1 ≤ 7))]) (k' := 0) (n' := 0) rfl rfl rfl rfl rfl ?_
  refine X.if_eq (pc := 4) 18 dX9_stands_4 (by decide) ⟨fun q9 => ?_, fun q9 => ?_⟩
  · have h := h.1 (bI_eq.mp q9)
    refine X.ldc2 (pc := 18) (y := -1) dX9_stands_18 kc_X9_189 rfl ⟨by decide, by decide⟩ ?_
    exact X.lret (pc := 21) dX9_stands_21 rfl (Nat.le_of_ble_eq_true rfl) (Nat.le_of_ble_eq_true rfl) h
  · have h := h.2 (bI_ne.mp q9)
    refine X.aload_n (pc := 7) (i := 0) 0 dX9_stands_7 rfl rfl ?_
    refine X.getR (pc := 8) (b := 211) dX9_stands_8 fl_X9_26 rfl (fs_X9 hW) (fp_X9_2 hW) ?_
    refine X.iload_n (pc := 11) (i := 2) 2 dX9_stands_11 rfl rfl ?_
    refine X.callV (pc := 12) (vs := [vI x2]) (st := []) dX9_stands_12 rfl okM_X0_has rfl lk_X9_205 inst_X0_has sel_X0_has (fs_X0 hW) rfl ⟨⟨by decide, by decide⟩, ⟨by decide, by decide⟩, Nat.le_of_ble_eq_true rfl⟩ (Nat.le_of_ble_eq_true rfl) (c_X0_has hW ?_)
    refine X.nrm (pc' := 15) (ls' := [(0, vR 0), (1, vI x1), (2, vI x2), (3, vI x3), (4, vI x4)]) (st' := [vI (bI (0 ≤ x2 ∧ x2 < 81 ∧ x2 % 9 < (μ) 211 1 ∧ x2 / 9 < (μ) 211 2))]) (k' := 0) (n' := 0) rfl rfl rfl rfl rfl ?_
    refine X.if_ne (pc := 15) 22 dX9_stands_15 (by decide) ⟨fun q9 => ?_, fun q9 => ?_⟩
    · have h := h.1 (bI_ne.mp q9)
      refine X.iload_n (pc := 22) (i := 2) 2 dX9_stands_22 rfl rfl ?_
      refine X.bipush (pc := 23) (y := 9) dX9_stands_23 rfl ⟨by decide, by decide⟩ ?_
      refine X.irem (pc := 25) dX9_stands_25 (by decide) ?_
      refine X.istore (pc := 26) (i := 5) (ls' := [(5, vI (w32 (Int.tmod x2 9))), (0, vR 0), (1, vI x1), (2, vI x2), (3, vI x3), (4, vI x4)]) dX9_stands_26 (by decide) rfl ?_
      refine X.iload_n (pc := 28) (i := 2) 3 dX9_stands_28 rfl rfl ?_
      refine X.bipush (pc := 29) (y := 9) dX9_stands_29 rfl ⟨by decide, by decide⟩ ?_
      refine X.idiv (pc := 31) dX9_stands_31 (by decide) ?_
      refine X.istore (pc := 32) (i := 6) (ls' := [(6, vI (w32 (Int.tdiv x2 9))), (5, vI (w32 (Int.tmod x2 9))), (0, vR 0), (1, vI x1), (2, vI x2), (3, vI x3), (4, vI x4)]) dX9_stands_32 (by decide) rfl ?_
      refine X.iload_n (pc := 34) (i := 3) 5 dX9_stands_34 rfl rfl ?_
      refine X.iconst (pc := 35) dX9_stands_35 ⟨by decide, by decide⟩ ?_
      refine X.aload_n (pc := 36) (i := 0) 2 dX9_stands_36 rfl rfl ?_
      refine X.getR (pc := 37) (b := 211) dX9_stands_37 fl_X9_26 rfl (fs_X9 hW) (fp_X9_2 hW) ?_
      refine X.getI (pc := 40) dX9_stands_40 fl_X9_216 rfl (fs_X0 hW) ?_
      refine X.iload (pc := 43) (i := 5) 1 dX9_stands_43 rfl ?_
      refine X.isub (pc := 45) dX9_stands_45 ?_
      refine X.pick [2, 3, 5, 6, 1, 0] rfl ?_
      refine X.callS (pc := 46) (vs := [vI x3, vI 1, vI (w32 (((μ) 211 1) - (w32 (Int.tmod x2 9))))]) (st := []) dX9_stands_46 rfl okM_X9_isWithin rfl lk_X9_69 stat_X9_isWithin ⟨⟨by decide, by decide⟩, ⟨by decide, by decide⟩, Nat.le_of_ble_eq_true rfl⟩ (Nat.le_of_ble_eq_true rfl) (c_X9_isWithin hW ?_)
      refine X.nrm (pc' := 49) (ls' := [(0, vR 0), (1, vI x1), (3, vI x3), (4, vI x4), (5, vI (w32 (Int.tmod x2 9))), (6, vI (w32 (Int.tdiv x2 9)))]) (st' := [vI (bI (1 ≤ x3 ∧ x3 ≤ (w32 (((μ) 211 1) - (w32 (Int.tmod x2 9))))))]) (k' := 0) (n' := 0) rfl rfl rfl rfl rfl ?_
      refine X.if_eq (pc := 49) 71 dX9_stands_49 (by decide) ⟨fun q9 => ?_, fun q9 => ?_⟩
      · have h := h.1 (bI_eq.mp q9)
        refine X.ldc2 (pc := 71) (y := -2) dX9_stands_71 kc_X9_191 rfl ⟨by decide, by decide⟩ ?_
        exact X.lret (pc := 74) dX9_stands_74 rfl (Nat.le_of_ble_eq_true rfl) (Nat.le_of_ble_eq_true rfl) h
      · have h := h.2 (bI_ne.mp q9)
        refine X.iload (pc := 52) (i := 4) 3 dX9_stands_52 rfl ?_
        refine X.iconst (pc := 54) dX9_stands_54 ⟨by decide, by decide⟩ ?_
        refine X.aload_n (pc := 55) (i := 0) 0 dX9_stands_55 rfl rfl ?_
        refine X.getR (pc := 56) (b := 211) dX9_stands_56 fl_X9_26 rfl (fs_X9 hW) (fp_X9_2 hW) ?_
        refine X.getI (pc := 59) dX9_stands_59 fl_X9_217 rfl (fs_X0 hW) ?_
        refine X.iload (pc := 62) (i := 6) 5 dX9_stands_62 rfl ?_
        refine X.isub (pc := 64) dX9_stands_64 ?_
        refine X.callS (pc := 65) (vs := [vI x4, vI 1, vI (w32 (((μ) 211 2) - (w32 (Int.tdiv x2 9))))]) (st := []) dX9_stands_65 rfl okM_X9_isWithin rfl lk_X9_69 stat_X9_isWithin ⟨⟨by decide, by decide⟩, ⟨by decide, by decide⟩, Nat.le_of_ble_eq_true rfl⟩ (Nat.le_of_ble_eq_true rfl) (c_X9_isWithin hW ?_)
        refine X.nrm (pc' := 68) (ls' := [(0, vR 0), (1, vI x1), (3, vI x3), (4, vI x4), (5, vI (w32 (Int.tmod x2 9))), (6, vI (w32 (Int.tdiv x2 9)))]) (st' := [vI (bI (1 ≤ x4 ∧ x4 ≤ (w32 (((μ) 211 2) - (w32 (Int.tdiv x2 9))))))]) (k' := 0) (n' := 0) rfl rfl rfl rfl rfl ?_
        refine X.if_ne (pc := 68) 75 dX9_stands_68 (by decide) ⟨fun q9 => ?_, fun q9 => ?_⟩
        · have h := h.1 (bI_ne.mp q9)
          refine X.aload_n (pc := 75) (i := 0) 0 dX9_stands_75 rfl rfl ?_
          refine X.getR (pc := 76) (b := 231) dX9_stands_76 fl_X9_39 rfl (fs_X9 hW) (fp_X9_4 hW) ?_
          refine X.aload_n (pc := 79) (i := 0) 0 dX9_stands_79 rfl rfl ?_
          refine X.getR (pc := 80) (b := 231) dX9_stands_80 fl_X9_39 rfl (fs_X9 hW) (fp_X9_4 hW) ?_
          refine X.iload_n (pc := 83) (i := 1) 1 dX9_stands_83 rfl rfl ?_
          refine X.iload (pc := 84) (i := 5) 4 dX9_stands_84 rfl ?_
          refine X.iload (pc := 86) (i := 6) 5 dX9_stands_86 rfl ?_
          refine X.iload_n (pc := 88) (i := 3) 2 dX9_stands_88 rfl rfl ?_
          refine X.iload (pc := 89) (i := 4) 3 dX9_stands_89 rfl ?_
          refine X.pick [] rfl ?_
          exact X.callV (pc := 91) (vs := [vI x1, vI (w32 (Int.tmod x2 9)), vI (w32 (Int.tdiv x2 9)), vI x3, vI x4]) (st := [vR 231]) dX9_stands_91 rfl okM_X1_settle rfl lk_X9_193 inst_X1_settle sel_X1_settle (fs_X1 hW mk_bound) rfl ⟨⟨by decide, by decide⟩, ⟨by decide, by decide⟩, Nat.le_of_ble_eq_true rfl⟩ (Nat.le_of_ble_eq_true rfl) h
        · have h := h.2 (bI_eq.mp q9)
          refine X.ldc2 (pc := 71) (y := -2) dX9_stands_71 kc_X9_191 rfl ⟨by decide, by decide⟩ ?_
          exact X.lret (pc := 74) dX9_stands_74 rfl (Nat.le_of_ble_eq_true rfl) (Nat.le_of_ble_eq_true rfl) h
    · have h := h.2 (bI_eq.mp q9)
      refine X.ldc2 (pc := 18) (y := -1) dX9_stands_18 kc_X9_189 rfl ⟨by decide, by decide⟩ ?_
      exact X.lret (pc := 21) dX9_stands_21 rfl (Nat.le_of_ble_eq_true rfl) (Nat.le_of_ble_eq_true rfl) h

theorem g_X9_stands_94 {sh : List (Nat × Nat)} {ν : Nat → Nat → Option Nat} {μ : Nat → Nat → Int} {f s : Nat} {Q : xQ} (hW : WF sh ν f s) {q0 : Nat} (hq0 : isChart q0) {y1 : Int}
    (h : Q (some (vL (rdO ((μ) (q0 + 15) (Int.toNat y1)) 0 y1 (nsp q0 * nsp q0 * 8)))) sh (ν) (μ)) :
    X mX9_stands 94 [] [vI y1, vR q0] sh ν μ 0 0 Q := by
  refine X.callV (pc := 94) (vs := [vI y1]) (st := []) dX9_stands_94 rfl okM_X1_waysOf rfl lk_X9_197 inst_X1_waysOf sel_X1_waysOf (fs_X1 hW hq0) rfl ⟨⟨by decide, by decide⟩, ⟨by decide, by decide⟩, Nat.le_of_ble_eq_true rfl⟩ (Nat.le_of_ble_eq_true rfl) (c_X1_waysOf hW hq0 ?_)
  refine X.nrm (pc' := 97) (ls' := []) (st' := [vL (rdO ((μ) (q0 + 15) (Int.toNat y1)) 0 y1 (nsp q0 * nsp q0 * 8))]) (k' := 0) (n' := 0) rfl rfl rfl rfl rfl ?_
  exact X.lret (pc := 97) dX9_stands_97 rfl (Nat.le_of_ble_eq_true rfl) (Nat.le_of_ble_eq_true rfl) h

theorem g_X9_settleBoard_0 {sh : List (Nat × Nat)} {ν : Nat → Nat → Option Nat} {μ : Nat → Nat → Int} {f s : Nat} {Q : xQ} (hW : WF sh ν f s) 
    (h : X mX1_settle 0 [(0, vR 231), (1, vI 0), (2, vI 0), (3, vI 0), (4, vI ((μ) 211 1)), (5, vI ((μ) 211 2))] [] sh (ν) (μ) 0 0 (fun v sh' ν' μ' => X mX9_settleBoard 24 [] (v.toList ++ []) sh' ν' μ' 0 0 Q)) :
    X mX9_settleBoard 0 [(0, vR 0)] [] sh ν μ 0 0 Q := by
  refine X.aload_n (pc := 0) (i := 0) 0 dX9_settleBoard_0 rfl rfl ?_
  refine X.getR (pc := 1) (b := 231) dX9_settleBoard_1 fl_X9_39 rfl (fs_X9 hW) (fp_X9_4 hW) ?_
  refine X.iconst (pc := 4) dX9_settleBoard_4 ⟨by decide, by decide⟩ ?_
  refine X.iconst (pc := 5) dX9_settleBoard_5 ⟨by decide, by decide⟩ ?_
  refine X.iconst (pc := 6) dX9_settleBoard_6 ⟨by decide, by decide⟩ ?_
  refine X.aload_n (pc := 7) (i := 0) 0 dX9_settleBoard_7 rfl rfl ?_
  refine X.getR (pc := 8) (b := 211) dX9_settleBoard_8 fl_X9_26 rfl (fs_X9 hW) (fp_X9_2 hW) ?_
  refine X.getI (pc := 11) dX9_settleBoard_11 fl_X9_216 rfl (fs_X0 hW) ?_
  refine X.aload_n (pc := 14) (i := 0) 0 dX9_settleBoard_14 rfl rfl ?_
  refine X.getR (pc := 15) (b := 211) dX9_settleBoard_15 fl_X9_26 rfl (fs_X9 hW) (fp_X9_2 hW) ?_
  refine X.getI (pc := 18) dX9_settleBoard_18 fl_X9_217 rfl (fs_X0 hW) ?_
  refine X.pick [] rfl ?_
  exact X.callV (pc := 21) (vs := [vI 0, vI 0, vI 0, vI ((μ) 211 1), vI ((μ) 211 2)]) (st := []) dX9_settleBoard_21 rfl okM_X1_settle rfl lk_X9_193 inst_X1_settle sel_X1_settle (fs_X1 hW mk_bound) rfl ⟨⟨by decide, by decide⟩, ⟨by decide, by decide⟩, Nat.le_of_ble_eq_true rfl⟩ (Nat.le_of_ble_eq_true rfl) h

theorem g_X9_settleBoard_24 {sh : List (Nat × Nat)} {ν : Nat → Nat → Option Nat} {μ : Nat → Nat → Int} {f s : Nat} {Q : xQ} (hW : WF sh ν f s) {y0 : Int}
    (h : Q (some (vI y0)) sh (ν) (μ)) :
    X mX9_settleBoard 24 [] [vI y0] sh ν μ 0 0 Q := by
  exact X.iret (pc := 24) dX9_settleBoard_24 rfl (Nat.le_of_ble_eq_true rfl) (Nat.le_of_ble_eq_true rfl) h

theorem g_X10_fill_0 {sh : List (Nat × Nat)} {ν : Nat → Nat → Option Nat} {μ : Nat → Nat → Int} {f s : Nat} {Q : xQ} (hW : WF sh ν f s) {x1 : Int} {x2 : Int} {x3 : Int}
    (h : (((0 ≤ x1 ∧ x1 ≤ 7) → ((¬ (0 ≤ x2 ∧ x2 ≤ 25) → Q (some (vI (-2))) sh (ν) (μ)) ∧ ((0 ≤ x2 ∧ x2 ≤ 25) → (((0 ≤ x3 ∧ x3 ≤ 99) → ((((μ) 265 0) ≠ 40 → X mX10_add 0 [(0, vR 265), (1, vI x1), (2, vI 0), (3, vI x3), (4, vI x2)] [] sh (ν) (μ) 0 0 (fun v sh' ν' μ' => X mX10_fill 58 [] (v.toList ++ []) sh' ν' μ' 0 0 Q)) ∧ (((μ) 265 0) = 40 → X mX10_fill 58 [] [vI (-4)] sh (ν) (μ) 0 0 Q))) ∧ (¬ (0 ≤ x3 ∧ x3 ≤ 99) → Q (some (vI (-2))) sh (ν) (μ)))))) ∧ (¬ (0 ≤ x1 ∧ x1 ≤ 7) → Q (some (vI (-1))) sh (ν) (μ)))) :
    X mX10_fill 0 [(0, vR 265), (1, vI x1), (2, vI x2), (3, vI x3)] [] sh ν μ 0 0 Q := by
  refine X.iload_n (pc := 0) (i := 1) 1 dX10_fill_0 rfl rfl ?_
  refine X.callS (pc := 1) (vs := [vI x1]) (st := []) dX10_fill_1 rfl okM_X10_isName rfl lk_X10_135 stat_X10_isName ⟨⟨by decide, by decide⟩, ⟨by decide, by decide⟩, Nat.le_of_ble_eq_true rfl⟩ (Nat.le_of_ble_eq_true rfl) (c_X10_isName hW ?_)
  refine X.nrm (pc' := 4) (ls' := [(0, vR 265), (1, vI x1), (2, vI x2), (3, vI x3)]) (st' := [vI (bI (0 ≤ x1 ∧ x1 ≤ 7))]) (k' := 0) (n' := 0) rfl rfl rfl rfl rfl ?_
  refine X.if_ne (pc := 4) 9 dX10_fill_4 (by decide) ⟨fun q9 => ?_, fun q9 => ?_⟩
  · have h := h.1 (bI_ne.mp q9)
    refine X.iload_n (pc := 9) (i := 2) 2 dX10_fill_9 rfl rfl ?_
    refine X.i2l (pc := 10) dX10_fill_10 ?_
    refine X.lconst (pc := 11) (y := 0) dX10_fill_11 rfl ⟨by decide, by decide⟩ ?_
    refine X.ldc2 (pc := 12) (y := 25) dX10_fill_12 kc_X10_139 rfl ⟨by decide, by decide⟩ ?_
    refine X.callS (pc := 15) (vs := [vL x2, vL 0, vL 25]) (st := []) dX10_fill_15 rfl okM_X10_in rfl lk_X10_124 stat_X10_in ⟨⟨by decide, by decide⟩, ⟨by decide, by decide⟩, Nat.le_of_ble_eq_true rfl⟩ (Nat.le_of_ble_eq_true rfl) (c_X10_in hW ?_)
    refine X.nrm (pc' := 18) (ls' := [(0, vR 265), (1, vI x1), (2, vI x2), (3, vI x3)]) (st' := [vI (bI (0 ≤ x2 ∧ x2 ≤ 25))]) (k' := 0) (n' := 0) rfl rfl rfl rfl rfl ?_
    refine X.if_eq (pc := 18) 33 dX10_fill_18 (by decide) ⟨fun q9 => ?_, fun q9 => ?_⟩
    · have h := h.1 (bI_eq.mp q9)
      refine X.bipush (pc := 33) (y := -2) dX10_fill_33 rfl ⟨by decide, by decide⟩ ?_
      exact X.iret (pc := 35) dX10_fill_35 rfl (Nat.le_of_ble_eq_true rfl) (Nat.le_of_ble_eq_true rfl) h
    · have h := h.2 (bI_ne.mp q9)
      refine X.iload_n (pc := 21) (i := 3) 3 dX10_fill_21 rfl rfl ?_
      refine X.i2l (pc := 22) dX10_fill_22 ?_
      refine X.lconst (pc := 23) (y := 0) dX10_fill_23 rfl ⟨by decide, by decide⟩ ?_
      refine X.ldc2 (pc := 24) (y := 99) dX10_fill_24 kc_X10_141 rfl ⟨by decide, by decide⟩ ?_
      refine X.callS (pc := 27) (vs := [vL x3, vL 0, vL 99]) (st := []) dX10_fill_27 rfl okM_X10_in rfl lk_X10_124 stat_X10_in ⟨⟨by decide, by decide⟩, ⟨by decide, by decide⟩, Nat.le_of_ble_eq_true rfl⟩ (Nat.le_of_ble_eq_true rfl) (c_X10_in hW ?_)
      refine X.nrm (pc' := 30) (ls' := [(0, vR 265), (1, vI x1), (2, vI x2), (3, vI x3)]) (st' := [vI (bI (0 ≤ x3 ∧ x3 ≤ 99))]) (k' := 0) (n' := 0) rfl rfl rfl rfl rfl ?_
      refine X.if_ne (pc := 30) 36 dX10_fill_30 (by decide) ⟨fun q9 => ?_, fun q9 => ?_⟩
      · have h := h.1 (bI_ne.mp q9)
        refine X.aload_n (pc := 36) (i := 0) 0 dX10_fill_36 rfl rfl ?_
        refine X.getI (pc := 37) dX10_fill_37 fl_X10_128 rfl (fs_X10 hW) ?_
        refine X.bipush (pc := 40) (y := 40) dX10_fill_40 rfl ⟨by decide, by decide⟩ ?_
        refine X.icmp_ne (pc := 42) 50 dX10_fill_42 (by decide) ⟨fun q9 => ?_, fun q9 => ?_⟩
        · have h := h.1 q9
          refine X.aload_n (pc := 50) (i := 0) 0 dX10_fill_50 rfl rfl ?_
          refine X.iload_n (pc := 51) (i := 1) 1 dX10_fill_51 rfl rfl ?_
          refine X.iconst (pc := 52) dX10_fill_52 ⟨by decide, by decide⟩ ?_
          refine X.iload_n (pc := 53) (i := 3) 3 dX10_fill_53 rfl rfl ?_
          refine X.iload_n (pc := 54) (i := 2) 2 dX10_fill_54 rfl rfl ?_
          refine X.pick [] rfl ?_
          exact X.callV (pc := 55) (vs := [vI x1, vI 0, vI x3, vI x2]) (st := []) dX10_fill_55 rfl okM_X10_add rfl lk_X10_143 inst_X10_add sel_X10_add (fs_X10 hW) rfl ⟨⟨by decide, by decide⟩, ⟨by decide, by decide⟩, Nat.le_of_ble_eq_true rfl⟩ (Nat.le_of_ble_eq_true rfl) h
        · have h := h.2 q9
          refine X.bipush (pc := 45) (y := -4) dX10_fill_45 rfl ⟨by decide, by decide⟩ ?_
          refine X.goto (pc := 47) (tgt := 58) dX10_fill_47 (by decide) ?_
          exact X.pick [] rfl h
      · have h := h.2 (bI_eq.mp q9)
        refine X.bipush (pc := 33) (y := -2) dX10_fill_33 rfl ⟨by decide, by decide⟩ ?_
        exact X.iret (pc := 35) dX10_fill_35 rfl (Nat.le_of_ble_eq_true rfl) (Nat.le_of_ble_eq_true rfl) h
  · have h := h.2 (bI_eq.mp q9)
    refine X.iconst (pc := 7) dX10_fill_7 ⟨by decide, by decide⟩ ?_
    exact X.iret (pc := 8) dX10_fill_8 rfl (Nat.le_of_ble_eq_true rfl) (Nat.le_of_ble_eq_true rfl) h

theorem g_X10_fill_58 {sh : List (Nat × Nat)} {ν : Nat → Nat → Option Nat} {μ : Nat → Nat → Int} {f s : Nat} {Q : xQ} (hW : WF sh ν f s) {y0 : Int}
    (h : Q (some (vI y0)) sh (ν) (μ)) :
    X mX10_fill 58 [] [vI y0] sh ν μ 0 0 Q := by
  exact X.iret (pc := 58) dX10_fill_58 rfl (Nat.le_of_ble_eq_true rfl) (Nat.le_of_ble_eq_true rfl) h

theorem g_X10_part_0 {sh : List (Nat × Nat)} {ν : Nat → Nat → Option Nat} {μ : Nat → Nat → Int} {f s : Nat} {Q : xQ} (hW : WF sh ν f s) {x1 : Int} {x2 : Int} {x3 : Int}
    (h : (((0 ≤ x1 ∧ x1 ≤ 7) → ((x3 = 0 → X mX10_part 25 [(0, vR 265), (1, vI x1), (2, vI x2), (3, vI x3)] [vL 20, vL 1, vL x2] sh (ν) (μ) 0 0 Q) ∧ (x3 ≠ 0 → X mX10_part 25 [(0, vR 265), (1, vI x1), (2, vI x2), (3, vI x3)] [vL 9, vL 1, vL x2] sh (ν) (μ) 0 0 Q))) ∧ (¬ (0 ≤ x1 ∧ x1 ≤ 7) → Q (some (vI (-1))) sh (ν) (μ)))) :
    X mX10_part 0 [(0, vR 265), (1, vI x1), (2, vI x2), (3, vI x3)] [] sh ν μ 0 0 Q := by
  refine X.iload_n (pc := 0) (i := 1) 1 dX10_part_0 rfl rfl ?_
  refine X.callS (pc := 1) (vs := [vI x1]) (st := []) dX10_part_1 rfl okM_X10_isName rfl lk_X10_135 stat_X10_isName ⟨⟨by decide, by decide⟩, ⟨by decide, by decide⟩, Nat.le_of_ble_eq_true rfl⟩ (Nat.le_of_ble_eq_true rfl) (c_X10_isName hW ?_)
  refine X.nrm (pc' := 4) (ls' := [(0, vR 265), (1, vI x1), (2, vI x2), (3, vI x3)]) (st' := [vI (bI (0 ≤ x1 ∧ x1 ≤ 7))]) (k' := 0) (n' := 0) rfl rfl rfl rfl rfl ?_
  refine X.if_ne (pc := 4) 9 dX10_part_4 (by decide) ⟨fun q9 => ?_, fun q9 => ?_⟩
  · have h := h.1 (bI_ne.mp q9)
    refine X.iload_n (pc := 9) (i := 2) 2 dX10_part_9 rfl rfl ?_
    refine X.i2l (pc := 10) dX10_part_10 ?_
    refine X.lconst (pc := 11) (y := 1) dX10_part_11 rfl ⟨by decide, by decide⟩ ?_
    refine X.iload_n (pc := 12) (i := 3) 3 dX10_part_12 rfl rfl ?_
    refine X.if_eq (pc := 13) 22 dX10_part_13 (by decide) ⟨fun q9 => ?_, fun q9 => ?_⟩
    · have h := h.1 q9
      refine X.ldc2 (pc := 22) (y := 20) dX10_part_22 kc_X10_149 rfl ⟨by decide, by decide⟩ ?_
      exact h
    · have h := h.2 q9
      refine X.ldc2 (pc := 16) (y := 9) dX10_part_16 kc_X10_147 rfl ⟨by decide, by decide⟩ ?_
      refine X.goto (pc := 19) (tgt := 25) dX10_part_19 (by decide) ?_
      exact h
  · have h := h.2 (bI_eq.mp q9)
    refine X.iconst (pc := 7) dX10_part_7 ⟨by decide, by decide⟩ ?_
    exact X.iret (pc := 8) dX10_part_8 rfl (Nat.le_of_ble_eq_true rfl) (Nat.le_of_ble_eq_true rfl) h

theorem g_X10_part_25 {sh : List (Nat × Nat)} {ν : Nat → Nat → Option Nat} {μ : Nat → Nat → Int} {f s : Nat} {Q : xQ} (hW : WF sh ν f s) {x1 : Int} {x2 : Int} {x3 : Int} {y0 : Int} {y1 : Int} {y2 : Int}
    (h : (((y1 ≤ y0 ∧ y0 ≤ y2) → ((((μ) 265 10) ≠ 6 → (0 ≤ ((μ) 265 10) ∧ ((μ) 265 10) < (6 : Nat)) ∧ (0 ≤ ((μ) 265 10) ∧ ((μ) 265 10) < (6 : Nat)) ∧ (0 ≤ ((μ) 265 10) ∧ ((μ) 265 10) < (6 : Nat)) ∧ (x3 = 0 ∨ x3 = 1) ∧ Q (some (vI (w32 (((μ) 265 10) + 1)))) sh (ν) (up (up (up (up μ 275 (Int.toNat ((μ) 265 10)) x1) 276 (Int.toNat ((μ) 265 10)) x2) 277 (Int.toNat ((μ) 265 10)) x3) 265 10 (w32 (((μ) 265 10) + 1)))) ∧ (((μ) 265 10) = 6 → Q (some (vI (-4))) sh (ν) (μ)))) ∧ (¬ (y1 ≤ y0 ∧ y0 ≤ y2) → Q (some (vI (-2))) sh (ν) (μ)))) :
    X mX10_part 25 [(0, vR 265), (1, vI x1), (2, vI x2), (3, vI x3)] [vL y2, vL y1, vL y0] sh ν μ 0 0 Q := by
  refine X.callS (pc := 25) (vs := [vL y0, vL y1, vL y2]) (st := []) dX10_part_25 rfl okM_X10_in rfl lk_X10_124 stat_X10_in ⟨⟨by decide, by decide⟩, ⟨by decide, by decide⟩, Nat.le_of_ble_eq_true rfl⟩ (Nat.le_of_ble_eq_true rfl) (c_X10_in hW ?_)
  refine X.nrm (pc' := 28) (ls' := [(0, vR 265), (1, vI x1), (2, vI x2), (3, vI x3)]) (st' := [vI (bI (y1 ≤ y0 ∧ y0 ≤ y2))]) (k' := 0) (n' := 0) rfl rfl rfl rfl rfl ?_
  refine X.if_ne (pc := 28) 34 dX10_part_28 (by decide) ⟨fun q9 => ?_, fun q9 => ?_⟩
  · have h := h.1 (bI_ne.mp q9)
    refine X.aload_n (pc := 34) (i := 0) 0 dX10_part_34 rfl rfl ?_
    refine X.getI (pc := 35) dX10_part_35 fl_X10_151 rfl (fs_X10 hW) ?_
    refine X.bipush (pc := 38) (y := 6) dX10_part_38 rfl ⟨by decide, by decide⟩ ?_
    refine X.icmp_ne (pc := 40) 46 dX10_part_40 (by decide) ⟨fun q9 => ?_, fun q9 => ?_⟩
    · have h := h.1 q9
      refine X.aload_n (pc := 46) (i := 0) 0 dX10_part_46 rfl rfl ?_
      refine X.getR (pc := 47) (b := 275) dX10_part_47 fl_X10_38 rfl (fs_X10 hW) (fp_X10_11 hW) ?_
      refine X.aload_n (pc := 50) (i := 0) 0 dX10_part_50 rfl rfl ?_
      refine X.getI (pc := 51) dX10_part_51 fl_X10_151 rfl (fs_X10 hW) ?_
      refine X.iload_n (pc := 54) (i := 1) 1 dX10_part_54 rfl rfl ?_
      obtain ⟨c1, h⟩ := h
      refine X.iastore (pc := 55) dX10_part_55 (fa_X10_11 hW) c1 ?_
      refine X.aload_n (pc := 56) (i := 0) 0 dX10_part_56 rfl rfl ?_
      refine X.getR (pc := 57) (b := 276) dX10_part_57 fl_X10_41 rfl (fs_X10 hW) (fp_X10_12 hW) ?_
      refine X.aload_n (pc := 60) (i := 0) 0 dX10_part_60 rfl rfl ?_
      refine X.getI (pc := 61) dX10_part_61 fl_X10_151 rfl (fs_X10 hW) ?_
      refine X.topI (y := ((μ) 265 10)) ((up_a (by decide) _)) ?_
      refine X.iload_n (pc := 64) (i := 2) 2 dX10_part_64 rfl rfl ?_
      obtain ⟨c2, h⟩ := h
      refine X.iastore (pc := 65) dX10_part_65 (fa_X10_12 hW) c2 ?_
      refine X.aload_n (pc := 66) (i := 0) 0 dX10_part_66 rfl rfl ?_
      refine X.getR (pc := 67) (b := 277) dX10_part_67 fl_X10_44 rfl (fs_X10 hW) (fp_X10_13 hW) ?_
      refine X.aload_n (pc := 70) (i := 0) 0 dX10_part_70 rfl rfl ?_
      refine X.getI (pc := 71) dX10_part_71 fl_X10_151 rfl (fs_X10 hW) ?_
      refine X.topI (y := ((μ) 265 10)) (Eq.trans (up_a (by decide) _) ((up_a (by decide) _))) ?_
      refine X.iload_n (pc := 74) (i := 3) 3 dX10_part_74 rfl rfl ?_
      obtain ⟨c3, h⟩ := h
      obtain ⟨c4, h⟩ := h
      refine X.zastore (pc := 75) dX10_part_75 (fa_X10_13 hW) c3 c4 ?_
      refine X.aload_n (pc := 76) (i := 0) 0 dX10_part_76 rfl rfl ?_
      refine X.dup (pc := 77) dX10_part_77 rfl ?_
      refine X.getI (pc := 78) dX10_part_78 fl_X10_151 rfl (fs_X10 hW) ?_
      refine X.topI (y := ((μ) 265 10)) (Eq.trans (up_a (by decide) _) (Eq.trans (up_a (by decide) _) ((up_a (by decide) _)))) ?_
      refine X.iconst (pc := 81) dX10_part_81 ⟨by decide, by decide⟩ ?_
      refine X.iadd (pc := 82) dX10_part_82 ?_
      refine X.putI (pc := 83) dX10_part_83 fl_X10_151 rfl (fun h9 => by cases h9) (fs_X10 hW) (Or.inl rfl) ?_
      refine X.aload_n (pc := 86) (i := 0) 0 dX10_part_86 rfl rfl ?_
      refine X.getI (pc := 87) dX10_part_87 fl_X10_151 rfl (fs_X10 hW) ?_
      refine X.topI (y := (w32 (((μ) 265 10) + 1))) ((up_s _ _ _ _)) ?_
      exact X.iret (pc := 90) dX10_part_90 rfl (Nat.le_of_ble_eq_true rfl) (Nat.le_of_ble_eq_true rfl) h
    · have h := h.2 q9
      refine X.bipush (pc := 43) (y := -4) dX10_part_43 rfl ⟨by decide, by decide⟩ ?_
      exact X.iret (pc := 45) dX10_part_45 rfl (Nat.le_of_ble_eq_true rfl) (Nat.le_of_ble_eq_true rfl) h
  · have h := h.2 (bI_eq.mp q9)
    refine X.bipush (pc := 31) (y := -2) dX10_part_31 rfl ⟨by decide, by decide⟩ ?_
    exact X.iret (pc := 33) dX10_part_33 rfl (Nat.le_of_ble_eq_true rfl) (Nat.le_of_ble_eq_true rfl) h

theorem g_X10_split_0 {sh : List (Nat × Nat)} {ν : Nat → Nat → Option Nat} {μ : Nat → Nat → Int} {f s : Nat} {Q : xQ} (hW : WF sh ν f s) {x1 : Int} {x2 : Int} {x3 : Int}
    (h : (((0 ≤ x1 ∧ x1 ≤ 7) → (((0 ≤ x3 ∧ x3 ≤ 99) → ((((μ) 265 10) ≠ 0 → ((((μ) 265 0) ≠ 40 → ((x2 = 0 → X mX10_split 57 [(0, vR 265), (3, vI x3)] [vI 1, vI x1, vR 265] sh (ν) (μ) 0 0 Q) ∧ (x2 ≠ 0 → X mX10_split 57 [(0, vR 265), (3, vI x3)] [vI 2, vI x1, vR 265] sh (ν) (μ) 0 0 Q))) ∧ (((μ) 265 0) = 40 → Q (some (vI (-4))) sh (ν) (μ)))) ∧ (((μ) 265 10) = 0 → Q (some (vI (-3))) sh (ν) (μ)))) ∧ (¬ (0 ≤ x3 ∧ x3 ≤ 99) → Q (some (vI (-2))) sh (ν) (μ)))) ∧ (¬ (0 ≤ x1 ∧ x1 ≤ 7) → Q (some (vI (-1))) sh (ν) (μ)))) :
    X mX10_split 0 [(0, vR 265), (1, vI x1), (2, vI x2), (3, vI x3)] [] sh ν μ 0 0 Q := by
  refine X.iload_n (pc := 0) (i := 1) 1 dX10_split_0 rfl rfl ?_
  refine X.callS (pc := 1) (vs := [vI x1]) (st := []) dX10_split_1 rfl okM_X10_isName rfl lk_X10_135 stat_X10_isName ⟨⟨by decide, by decide⟩, ⟨by decide, by decide⟩, Nat.le_of_ble_eq_true rfl⟩ (Nat.le_of_ble_eq_true rfl) (c_X10_isName hW ?_)
  refine X.nrm (pc' := 4) (ls' := [(0, vR 265), (1, vI x1), (2, vI x2), (3, vI x3)]) (st' := [vI (bI (0 ≤ x1 ∧ x1 ≤ 7))]) (k' := 0) (n' := 0) rfl rfl rfl rfl rfl ?_
  refine X.if_ne (pc := 4) 9 dX10_split_4 (by decide) ⟨fun q9 => ?_, fun q9 => ?_⟩
  · have h := h.1 (bI_ne.mp q9)
    refine X.iload_n (pc := 9) (i := 3) 3 dX10_split_9 rfl rfl ?_
    refine X.i2l (pc := 10) dX10_split_10 ?_
    refine X.lconst (pc := 11) (y := 0) dX10_split_11 rfl ⟨by decide, by decide⟩ ?_
    refine X.ldc2 (pc := 12) (y := 99) dX10_split_12 kc_X10_141 rfl ⟨by decide, by decide⟩ ?_
    refine X.callS (pc := 15) (vs := [vL x3, vL 0, vL 99]) (st := []) dX10_split_15 rfl okM_X10_in rfl lk_X10_124 stat_X10_in ⟨⟨by decide, by decide⟩, ⟨by decide, by decide⟩, Nat.le_of_ble_eq_true rfl⟩ (Nat.le_of_ble_eq_true rfl) (c_X10_in hW ?_)
    refine X.nrm (pc' := 18) (ls' := [(0, vR 265), (1, vI x1), (2, vI x2), (3, vI x3)]) (st' := [vI (bI (0 ≤ x3 ∧ x3 ≤ 99))]) (k' := 0) (n' := 0) rfl rfl rfl rfl rfl ?_
    refine X.if_ne (pc := 18) 24 dX10_split_18 (by decide) ⟨fun q9 => ?_, fun q9 => ?_⟩
    · have h := h.1 (bI_ne.mp q9)
      refine X.aload_n (pc := 24) (i := 0) 0 dX10_split_24 rfl rfl ?_
      refine X.getI (pc := 25) dX10_split_25 fl_X10_151 rfl (fs_X10 hW) ?_
      refine X.if_ne (pc := 28) 34 dX10_split_28 (by decide) ⟨fun q9 => ?_, fun q9 => ?_⟩
      · have h := h.1 q9
        refine X.aload_n (pc := 34) (i := 0) 0 dX10_split_34 rfl rfl ?_
        refine X.getI (pc := 35) dX10_split_35 fl_X10_128 rfl (fs_X10 hW) ?_
        refine X.bipush (pc := 38) (y := 40) dX10_split_38 rfl ⟨by decide, by decide⟩ ?_
        refine X.icmp_ne (pc := 40) 46 dX10_split_40 (by decide) ⟨fun q9 => ?_, fun q9 => ?_⟩
        · have h := h.1 q9
          refine X.aload_n (pc := 46) (i := 0) 0 dX10_split_46 rfl rfl ?_
          refine X.iload_n (pc := 47) (i := 1) 1 dX10_split_47 rfl rfl ?_
          refine X.iload_n (pc := 48) (i := 2) 2 dX10_split_48 rfl rfl ?_
          refine X.if_eq (pc := 49) 56 dX10_split_49 (by decide) ⟨fun q9 => ?_, fun q9 => ?_⟩
          · have h := h.1 q9
            refine X.iconst (pc := 56) dX10_split_56 ⟨by decide, by decide⟩ ?_
            exact X.pick [0, 3] rfl h
          · have h := h.2 q9
            refine X.iconst (pc := 52) dX10_split_52 ⟨by decide, by decide⟩ ?_
            refine X.goto (pc := 53) (tgt := 57) dX10_split_53 (by decide) ?_
            exact X.pick [0, 3] rfl h
        · have h := h.2 q9
          refine X.bipush (pc := 43) (y := -4) dX10_split_43 rfl ⟨by decide, by decide⟩ ?_
          exact X.iret (pc := 45) dX10_split_45 rfl (Nat.le_of_ble_eq_true rfl) (Nat.le_of_ble_eq_true rfl) h
      · have h := h.2 q9
        refine X.bipush (pc := 31) (y := -3) dX10_split_31 rfl ⟨by decide, by decide⟩ ?_
        exact X.iret (pc := 33) dX10_split_33 rfl (Nat.le_of_ble_eq_true rfl) (Nat.le_of_ble_eq_true rfl) h
    · have h := h.2 (bI_eq.mp q9)
      refine X.bipush (pc := 21) (y := -2) dX10_split_21 rfl ⟨by decide, by decide⟩ ?_
      exact X.iret (pc := 23) dX10_split_23 rfl (Nat.le_of_ble_eq_true rfl) (Nat.le_of_ble_eq_true rfl) h
  · have h := h.2 (bI_eq.mp q9)
    refine X.iconst (pc := 7) dX10_split_7 ⟨by decide, by decide⟩ ?_
    exact X.iret (pc := 8) dX10_split_8 rfl (Nat.le_of_ble_eq_true rfl) (Nat.le_of_ble_eq_true rfl) h

theorem g_X10_split_57 {sh : List (Nat × Nat)} {ν : Nat → Nat → Option Nat} {μ : Nat → Nat → Int} {f s : Nat} {Q : xQ} (hW : WF sh ν f s) {x3 : Int} {y1 : Int} {y2 : Int}
    (h : X mX10_add 0 [(0, vR 265), (1, vI y1), (2, vI y2), (3, vI x3), (4, vI (-9))] [] sh (ν) (μ) 0 0 (fun v sh' ν' μ' => X mX10_split 63 [(0, vR 265)] (v.toList ++ []) sh' ν' μ' 0 0 Q)) :
    X mX10_split 57 [(0, vR 265), (3, vI x3)] [vI y2, vI y1, vR 265] sh ν μ 0 0 Q := by
  refine X.iload_n (pc := 57) (i := 3) 1 dX10_split_57 rfl rfl ?_
  refine X.bipush (pc := 58) (y := -9) dX10_split_58 rfl ⟨by decide, by decide⟩ ?_
  refine X.pick [0] rfl ?_
  exact X.callV (pc := 60) (vs := [vI y1, vI y2, vI x3, vI (-9)]) (st := []) dX10_split_60 rfl okM_X10_add rfl lk_X10_143 inst_X10_add sel_X10_add (fs_X10 hW) rfl ⟨⟨by decide, by decide⟩, ⟨by decide, by decide⟩, Nat.le_of_ble_eq_true rfl⟩ (Nat.le_of_ble_eq_true rfl) h

theorem g_X10_split_63 {sh : List (Nat × Nat)} {ν : Nat → Nat → Option Nat} {μ : Nat → Nat → Int} {f s : Nat} {Q : xQ} (hW : WF sh ν f s) {y0 : Int}
    (h : X mX10_split 68 [(0, vR 265), (4, vI y0), (5, vI 0)] [] sh (ν) (μ) 0 0 Q) :
    X mX10_split 63 [(0, vR 265)] [vI y0] sh ν μ 0 0 Q := by
  refine X.istore (pc := 63) (i := 4) (ls' := [(4, vI y0), (0, vR 265)]) dX10_split_63 (by decide) rfl ?_
  refine X.iconst (pc := 65) dX10_split_65 ⟨by decide, by decide⟩ ?_
  refine X.istore (pc := 66) (i := 5) (ls' := [(5, vI 0), (4, vI y0), (0, vR 265)]) dX10_split_66 (by decide) rfl ?_
  exact X.pick [2, 1, 0] rfl h

theorem g_X10_split_68 {sh : List (Nat × Nat)} {ν : Nat → Nat → Option Nat} {μ : Nat → Nat → Int} {f s : Nat} {Q : xQ} (hW : WF sh ν f s) {x4 : Int} {x5 : Int}
    (h : ((((μ) 265 10) ≤ x5 → Q (some (vI x4)) sh (ν) (up μ 265 10 0)) ∧ (x5 < ((μ) 265 10) → (0 ≤ x5 ∧ x5 < (6 : Nat)) ∧ (0 ≤ x5 ∧ x5 < (6 : Nat)) ∧ (0 ≤ x5 ∧ x5 < (6 : Nat)) ∧ X mX10_addPart 0 [(0, vR 265), (1, vI x4), (2, vI ((μ) 275 (Int.toNat x5))), (3, vI ((μ) 276 (Int.toNat x5))), (4, vI ((μ) 277 (Int.toNat x5)))] [] sh (ν) (μ) 0 0 (fun v sh' ν' μ' => X mX10_split 104 [(0, vR 265), (4, vI x4), (5, vI x5)] (v.toList ++ []) sh' ν' μ' 0 0 Q)))) :
    X mX10_split 68 [(0, vR 265), (4, vI x4), (5, vI x5)] [] sh ν μ 0 0 Q := by
  refine X.iload (pc := 68) (i := 5) 2 dX10_split_68 rfl ?_
  refine X.aload_n (pc := 70) (i := 0) 0 dX10_split_70 rfl rfl ?_
  refine X.getI (pc := 71) dX10_split_71 fl_X10_151 rfl (fs_X10 hW) ?_
  refine X.icmp_ge (pc := 74) 110 dX10_split_74 (by decide) ⟨fun q9 => ?_, fun q9 => ?_⟩
  · have h := h.1 q9
    refine X.aload_n (pc := 110) (i := 0) 0 dX10_split_110 rfl rfl ?_
    refine X.iconst (pc := 111) dX10_split_111 ⟨by decide, by decide⟩ ?_
    refine X.putI (pc := 112) dX10_split_112 fl_X10_151 rfl (fun h9 => by cases h9) (fs_X10 hW) (Or.inl rfl) ?_
    refine X.iload (pc := 115) (i := 4) 1 dX10_split_115 rfl ?_
    exact X.iret (pc := 117) dX10_split_117 rfl (Nat.le_of_ble_eq_true rfl) (Nat.le_of_ble_eq_true rfl) h
  · have h := h.2 q9
    refine X.aload_n (pc := 77) (i := 0) 0 dX10_split_77 rfl rfl ?_
    refine X.iload (pc := 78) (i := 4) 1 dX10_split_78 rfl ?_
    refine X.aload_n (pc := 80) (i := 0) 0 dX10_split_80 rfl rfl ?_
    refine X.getR (pc := 81) (b := 275) dX10_split_81 fl_X10_38 rfl (fs_X10 hW) (fp_X10_11 hW) ?_
    refine X.iload (pc := 84) (i := 5) 2 dX10_split_84 rfl ?_
    obtain ⟨c1, h⟩ := h
    refine X.iaload (pc := 86) dX10_split_86 (fa_X10_11 hW) c1 ?_
    refine X.aload_n (pc := 87) (i := 0) 0 dX10_split_87 rfl rfl ?_
    refine X.getR (pc := 88) (b := 276) dX10_split_88 fl_X10_41 rfl (fs_X10 hW) (fp_X10_12 hW) ?_
    refine X.iload (pc := 91) (i := 5) 2 dX10_split_91 rfl ?_
    obtain ⟨c2, h⟩ := h
    refine X.iaload (pc := 93) dX10_split_93 (fa_X10_12 hW) c2 ?_
    refine X.aload_n (pc := 94) (i := 0) 0 dX10_split_94 rfl rfl ?_
    refine X.getR (pc := 95) (b := 277) dX10_split_95 fl_X10_44 rfl (fs_X10 hW) (fp_X10_13 hW) ?_
    refine X.iload (pc := 98) (i := 5) 2 dX10_split_98 rfl ?_
    obtain ⟨c3, h⟩ := h
    refine X.zaload (pc := 100) dX10_split_100 (fa_X10_13 hW) c3 ?_
    exact X.callV (pc := 101) (vs := [vI x4, vI ((μ) 275 (Int.toNat x5)), vI ((μ) 276 (Int.toNat x5)), vI ((μ) 277 (Int.toNat x5))]) (st := []) dX10_split_101 rfl okM_X10_addPart rfl lk_X10_154 inst_X10_addPart sel_X10_addPart (fs_X10 hW) rfl ⟨⟨by decide, by decide⟩, ⟨by decide, by decide⟩, Nat.le_of_ble_eq_true rfl⟩ (Nat.le_of_ble_eq_true rfl) h

theorem g_X10_split_104 {sh : List (Nat × Nat)} {ν : Nat → Nat → Option Nat} {μ : Nat → Nat → Int} {f s : Nat} {Q : xQ} (hW : WF sh ν f s) {x4 : Int} {x5 : Int}
    (h : X mX10_split 68 [(0, vR 265), (4, vI x4), (5, vI (w32 (x5 + 1)))] [] sh (ν) (μ) 0 0 Q) :
    X mX10_split 104 [(0, vR 265), (4, vI x4), (5, vI x5)] [] sh ν μ 0 0 Q := by
  refine X.iinc (pc := 104) (i := 5) (ls' := [(5, vI (w32 (x5 + 1))), (0, vR 265), (4, vI x4)]) 2 dX10_split_104 rfl (by decide) rfl ?_
  refine X.goto (pc := 107) (tgt := 68) dX10_split_107 (by decide) ?_
  exact X.pick [1, 2, 0] rfl h

theorem g_X10_repeat_0 {sh : List (Nat × Nat)} {ν : Nat → Nat → Option Nat} {μ : Nat → Nat → Int} {f s : Nat} {Q : xQ} (hW : WF sh ν f s) {x1 : Int} {x2 : Int} {x3 : Int} {x4 : Int} {x5 : Int}
    (h : ((¬ (0 ≤ x1 ∧ x1 ≤ 7) → Q (some (vI (-1))) sh (ν) (μ)) ∧ ((0 ≤ x1 ∧ x1 ≤ 7) → (((0 ≤ x2 ∧ x2 ≤ 7) → ((¬ (1 ≤ x3 ∧ x3 ≤ 20) → Q (some (vI (-2))) sh (ν) (μ)) ∧ ((1 ≤ x3 ∧ x3 ≤ 20) → (((0 ≤ x5 ∧ x5 ≤ 99) → ((((μ) 265 0) ≠ 40 → ((x4 = 0 → X mX10_repeat 68 [(0, vR 265), (2, vI x2), (3, vI x3), (5, vI x5)] [vI 3, vI x1, vR 265] sh (ν) (μ) 0 0 Q) ∧ (x4 ≠ 0 → X mX10_repeat 68 [(0, vR 265), (2, vI x2), (3, vI x3), (5, vI x5)] [vI 4, vI x1, vR 265] sh (ν) (μ) 0 0 Q))) ∧ (((μ) 265 0) = 40 → Q (some (vI (-4))) sh (ν) (μ)))) ∧ (¬ (0 ≤ x5 ∧ x5 ≤ 99) → Q (some (vI (-2))) sh (ν) (μ)))))) ∧ (¬ (0 ≤ x2 ∧ x2 ≤ 7) → Q (some (vI (-1))) sh (ν) (μ)))))) :
    X mX10_repeat 0 [(0, vR 265), (1, vI x1), (2, vI x2), (3, vI x3), (4, vI x4), (5, vI x5)] [] sh ν μ 0 0 Q := by
  refine X.iload_n (pc := 0) (i := 1) 1 dX10_repeat_0 rfl rfl ?_
  refine X.callS (pc := 1) (vs := [vI x1]) (st := []) dX10_repeat_1 rfl okM_X10_isName rfl lk_X10_135 stat_X10_isName ⟨⟨by decide, by decide⟩, ⟨by decide, by decide⟩, Nat.le_of_ble_eq_true rfl⟩ (Nat.le_of_ble_eq_true rfl) (c_X10_isName hW ?_)
  refine X.nrm (pc' := 4) (ls' := [(0, vR 265), (1, vI x1), (2, vI x2), (3, vI x3), (4, vI x4), (5, vI x5)]) (st' := [vI (bI (0 ≤ x1 ∧ x1 ≤ 7))]) (k' := 0) (n' := 0) rfl rfl rfl rfl rfl ?_
  refine X.if_eq (pc := 4) 14 dX10_repeat_4 (by decide) ⟨fun q9 => ?_, fun q9 => ?_⟩
  · have h := h.1 (bI_eq.mp q9)
    refine X.iconst (pc := 14) dX10_repeat_14 ⟨by decide, by decide⟩ ?_
    exact X.iret (pc := 15) dX10_repeat_15 rfl (Nat.le_of_ble_eq_true rfl) (Nat.le_of_ble_eq_true rfl) h
  · have h := h.2 (bI_ne.mp q9)
    refine X.iload_n (pc := 7) (i := 2) 2 dX10_repeat_7 rfl rfl ?_
    refine X.callS (pc := 8) (vs := [vI x2]) (st := []) dX10_repeat_8 rfl okM_X10_isName rfl lk_X10_135 stat_X10_isName ⟨⟨by decide, by decide⟩, ⟨by decide, by decide⟩, Nat.le_of_ble_eq_true rfl⟩ (Nat.le_of_ble_eq_true rfl) (c_X10_isName hW ?_)
    refine X.nrm (pc' := 11) (ls' := [(0, vR 265), (1, vI x1), (2, vI x2), (3, vI x3), (4, vI x4), (5, vI x5)]) (st' := [vI (bI (0 ≤ x2 ∧ x2 ≤ 7))]) (k' := 0) (n' := 0) rfl rfl rfl rfl rfl ?_
    refine X.if_ne (pc := 11) 16 dX10_repeat_11 (by decide) ⟨fun q9 => ?_, fun q9 => ?_⟩
    · have h := h.1 (bI_ne.mp q9)
      refine X.iload_n (pc := 16) (i := 3) 3 dX10_repeat_16 rfl rfl ?_
      refine X.i2l (pc := 17) dX10_repeat_17 ?_
      refine X.lconst (pc := 18) (y := 1) dX10_repeat_18 rfl ⟨by decide, by decide⟩ ?_
      refine X.ldc2 (pc := 19) (y := 20) dX10_repeat_19 kc_X10_149 rfl ⟨by decide, by decide⟩ ?_
      refine X.callS (pc := 22) (vs := [vL x3, vL 1, vL 20]) (st := []) dX10_repeat_22 rfl okM_X10_in rfl lk_X10_124 stat_X10_in ⟨⟨by decide, by decide⟩, ⟨by decide, by decide⟩, Nat.le_of_ble_eq_true rfl⟩ (Nat.le_of_ble_eq_true rfl) (c_X10_in hW ?_)
      refine X.nrm (pc' := 25) (ls' := [(0, vR 265), (1, vI x1), (2, vI x2), (3, vI x3), (4, vI x4), (5, vI x5)]) (st' := [vI (bI (1 ≤ x3 ∧ x3 ≤ 20))]) (k' := 0) (n' := 0) rfl rfl rfl rfl rfl ?_
      refine X.if_eq (pc := 25) 41 dX10_repeat_25 (by decide) ⟨fun q9 => ?_, fun q9 => ?_⟩
      · have h := h.1 (bI_eq.mp q9)
        refine X.bipush (pc := 41) (y := -2) dX10_repeat_41 rfl ⟨by decide, by decide⟩ ?_
        exact X.iret (pc := 43) dX10_repeat_43 rfl (Nat.le_of_ble_eq_true rfl) (Nat.le_of_ble_eq_true rfl) h
      · have h := h.2 (bI_ne.mp q9)
        refine X.iload (pc := 28) (i := 5) 5 dX10_repeat_28 rfl ?_
        refine X.i2l (pc := 30) dX10_repeat_30 ?_
        refine X.lconst (pc := 31) (y := 0) dX10_repeat_31 rfl ⟨by decide, by decide⟩ ?_
        refine X.ldc2 (pc := 32) (y := 99) dX10_repeat_32 kc_X10_141 rfl ⟨by decide, by decide⟩ ?_
        refine X.callS (pc := 35) (vs := [vL x5, vL 0, vL 99]) (st := []) dX10_repeat_35 rfl okM_X10_in rfl lk_X10_124 stat_X10_in ⟨⟨by decide, by decide⟩, ⟨by decide, by decide⟩, Nat.le_of_ble_eq_true rfl⟩ (Nat.le_of_ble_eq_true rfl) (c_X10_in hW ?_)
        refine X.nrm (pc' := 38) (ls' := [(0, vR 265), (1, vI x1), (2, vI x2), (3, vI x3), (4, vI x4), (5, vI x5)]) (st' := [vI (bI (0 ≤ x5 ∧ x5 ≤ 99))]) (k' := 0) (n' := 0) rfl rfl rfl rfl rfl ?_
        refine X.if_ne (pc := 38) 44 dX10_repeat_38 (by decide) ⟨fun q9 => ?_, fun q9 => ?_⟩
        · have h := h.1 (bI_ne.mp q9)
          refine X.aload_n (pc := 44) (i := 0) 0 dX10_repeat_44 rfl rfl ?_
          refine X.getI (pc := 45) dX10_repeat_45 fl_X10_128 rfl (fs_X10 hW) ?_
          refine X.bipush (pc := 48) (y := 40) dX10_repeat_48 rfl ⟨by decide, by decide⟩ ?_
          refine X.icmp_ne (pc := 50) 56 dX10_repeat_50 (by decide) ⟨fun q9 => ?_, fun q9 => ?_⟩
          · have h := h.1 q9
            refine X.aload_n (pc := 56) (i := 0) 0 dX10_repeat_56 rfl rfl ?_
            refine X.iload_n (pc := 57) (i := 1) 1 dX10_repeat_57 rfl rfl ?_
            refine X.iload (pc := 58) (i := 4) 4 dX10_repeat_58 rfl ?_
            refine X.if_eq (pc := 60) 67 dX10_repeat_60 (by decide) ⟨fun q9 => ?_, fun q9 => ?_⟩
            · have h := h.1 q9
              refine X.iconst (pc := 67) dX10_repeat_67 ⟨by decide, by decide⟩ ?_
              exact X.pick [0, 2, 3, 5] rfl h
            · have h := h.2 q9
              refine X.iconst (pc := 63) dX10_repeat_63 ⟨by decide, by decide⟩ ?_
              refine X.goto (pc := 64) (tgt := 68) dX10_repeat_64 (by decide) ?_
              exact X.pick [0, 2, 3, 5] rfl h
          · have h := h.2 q9
            refine X.bipush (pc := 53) (y := -4) dX10_repeat_53 rfl ⟨by decide, by decide⟩ ?_
            exact X.iret (pc := 55) dX10_repeat_55 rfl (Nat.le_of_ble_eq_true rfl) (Nat.le_of_ble_eq_true rfl) h
        · have h := h.2 (bI_eq.mp q9)
          refine X.bipush (pc := 41) (y := -2) dX10_repeat_41 rfl ⟨by decide, by decide⟩ ?_
          exact X.iret (pc := 43) dX10_repeat_43 rfl (Nat.le_of_ble_eq_true rfl) (Nat.le_of_ble_eq_true rfl) h
    · have h := h.2 (bI_eq.mp q9)
      refine X.iconst (pc := 14) dX10_repeat_14 ⟨by decide, by decide⟩ ?_
      exact X.iret (pc := 15) dX10_repeat_15 rfl (Nat.le_of_ble_eq_true rfl) (Nat.le_of_ble_eq_true rfl) h

theorem g_X10_repeat_68 {sh : List (Nat × Nat)} {ν : Nat → Nat → Option Nat} {μ : Nat → Nat → Int} {f s : Nat} {Q : xQ} (hW : WF sh ν f s) {x2 : Int} {x3 : Int} {x5 : Int} {y1 : Int} {y2 : Int}
    (h : X mX10_add 0 [(0, vR 265), (1, vI y1), (2, vI y2), (3, vI x5), (4, vI (-9))] [] sh (ν) (μ) 0 0 (fun v sh' ν' μ' => X mX10_repeat 75 [(0, vR 265), (2, vI x2), (3, vI x3)] (v.toList ++ []) sh' ν' μ' 0 0 Q)) :
    X mX10_repeat 68 [(0, vR 265), (2, vI x2), (3, vI x3), (5, vI x5)] [vI y2, vI y1, vR 265] sh ν μ 0 0 Q := by
  refine X.iload (pc := 68) (i := 5) 3 dX10_repeat_68 rfl ?_
  refine X.bipush (pc := 70) (y := -9) dX10_repeat_70 rfl ⟨by decide, by decide⟩ ?_
  refine X.pick [0, 1, 2] rfl ?_
  exact X.callV (pc := 72) (vs := [vI y1, vI y2, vI x5, vI (-9)]) (st := []) dX10_repeat_72 rfl okM_X10_add rfl lk_X10_143 inst_X10_add sel_X10_add (fs_X10 hW) rfl ⟨⟨by decide, by decide⟩, ⟨by decide, by decide⟩, Nat.le_of_ble_eq_true rfl⟩ (Nat.le_of_ble_eq_true rfl) h

theorem g_X10_repeat_75 {sh : List (Nat × Nat)} {ν : Nat → Nat → Option Nat} {μ : Nat → Nat → Int} {f s : Nat} {Q : xQ} (hW : WF sh ν f s) {x2 : Int} {x3 : Int} {y0 : Int}
    (h : X mX10_addPart 0 [(0, vR 265), (1, vI y0), (2, vI x2), (3, vI x3), (4, vI 0)] [] sh (ν) (μ) 0 0 (fun v sh' ν' μ' => X mX10_repeat 86 [(6, vI y0)] (v.toList ++ []) sh' ν' μ' 0 0 Q)) :
    X mX10_repeat 75 [(0, vR 265), (2, vI x2), (3, vI x3)] [vI y0] sh ν μ 0 0 Q := by
  refine X.istore (pc := 75) (i := 6) (ls' := [(6, vI y0), (0, vR 265), (2, vI x2), (3, vI x3)]) dX10_repeat_75 (by decide) rfl ?_
  refine X.aload_n (pc := 77) (i := 0) 1 dX10_repeat_77 rfl rfl ?_
  refine X.iload (pc := 78) (i := 6) 0 dX10_repeat_78 rfl ?_
  refine X.iload_n (pc := 80) (i := 2) 2 dX10_repeat_80 rfl rfl ?_
  refine X.iload_n (pc := 81) (i := 3) 3 dX10_repeat_81 rfl rfl ?_
  refine X.iconst (pc := 82) dX10_repeat_82 ⟨by decide, by decide⟩ ?_
  refine X.pick [0] rfl ?_
  exact X.callV (pc := 83) (vs := [vI y0, vI x2, vI x3, vI 0]) (st := []) dX10_repeat_83 rfl okM_X10_addPart rfl lk_X10_154 inst_X10_addPart sel_X10_addPart (fs_X10 hW) rfl ⟨⟨by decide, by decide⟩, ⟨by decide, by decide⟩, Nat.le_of_ble_eq_true rfl⟩ (Nat.le_of_ble_eq_true rfl) h

theorem g_X10_repeat_86 {sh : List (Nat × Nat)} {ν : Nat → Nat → Option Nat} {μ : Nat → Nat → Int} {f s : Nat} {Q : xQ} (hW : WF sh ν f s) {x6 : Int}
    (h : Q (some (vI x6)) sh (ν) (μ)) :
    X mX10_repeat 86 [(6, vI x6)] [] sh ν μ 0 0 Q := by
  refine X.iload (pc := 86) (i := 6) 0 dX10_repeat_86 rfl ?_
  exact X.iret (pc := 88) dX10_repeat_88 rfl (Nat.le_of_ble_eq_true rfl) (Nat.le_of_ble_eq_true rfl) h

theorem g_X10_only_0 {sh : List (Nat × Nat)} {ν : Nat → Nat → Option Nat} {μ : Nat → Nat → Int} {f s : Nat} {Q : xQ} (hW : WF sh ν f s) {x1 : Int} {x2 : Int} {x3 : Int} {x4 : Int}
    (h : (0 ≤ (μ) 265 0 ∧ (μ) 265 0 ≤ 40) ∧ (((0 ≤ x1 ∧ x1 < (μ) 265 0) → ((¬ (1 ≤ x3 ∧ x3 ≤ 20) → Q (some (vI (-2))) sh (ν) (μ)) ∧ ((1 ≤ x3 ∧ x3 ≤ 20) → ((¬ (1 ≤ x4 ∧ x4 ≤ 20) → Q (some (vI (-2))) sh (ν) (μ)) ∧ ((1 ≤ x4 ∧ x4 ≤ 20) → ((x3 ≤ x4 → ((x2 = 0 → X mX10_only 46 [(0, vR 265), (3, vI x3), (4, vI x4)] [vI 0, vI (w32 (4 * x1))] sh (ν) (μ) 0 0 Q) ∧ (x2 ≠ 0 → X mX10_only 46 [(0, vR 265), (3, vI x3), (4, vI x4)] [vI 2, vI (w32 (4 * x1))] sh (ν) (μ) 0 0 Q))) ∧ (x4 < x3 → Q (some (vI (-2))) sh (ν) (μ)))))))) ∧ (¬ (0 ≤ x1 ∧ x1 < (μ) 265 0) → Q (some (vI (-1))) sh (ν) (μ)))) :
    X mX10_only 0 [(0, vR 265), (1, vI x1), (2, vI x2), (3, vI x3), (4, vI x4)] [] sh ν μ 0 0 Q := by
  refine X.aload_n (pc := 0) (i := 0) 0 dX10_only_0 rfl rfl ?_
  refine X.iload_n (pc := 1) (i := 1) 1 dX10_only_1 rfl rfl ?_
  obtain ⟨c1, h⟩ := h
  refine X.callV (pc := 2) (vs := [vI x1]) (st := []) dX10_only_2 rfl okM_X10_isRule rfl lk_X10_158 inst_X10_isRule sel_X10_isRule (fs_X10 hW) rfl ⟨⟨by decide, by decide⟩, ⟨by decide, by decide⟩, Nat.le_of_ble_eq_true rfl⟩ (Nat.le_of_ble_eq_true rfl) (c_X10_isRule hW c1 ?_)
  refine X.nrm (pc' := 5) (ls' := [(0, vR 265), (1, vI x1), (2, vI x2), (3, vI x3), (4, vI x4)]) (st' := [vI (bI (0 ≤ x1 ∧ x1 < (μ) 265 0))]) (k' := 0) (n' := 0) rfl rfl rfl rfl rfl ?_
  refine X.if_ne (pc := 5) 10 dX10_only_5 (by decide) ⟨fun q9 => ?_, fun q9 => ?_⟩
  · have h := h.1 (bI_ne.mp q9)
    refine X.iload_n (pc := 10) (i := 3) 3 dX10_only_10 rfl rfl ?_
    refine X.callS (pc := 11) (vs := [vI x3]) (st := []) dX10_only_11 rfl okM_X10_isLength rfl lk_X10_161 stat_X10_isLength ⟨⟨by decide, by decide⟩, ⟨by decide, by decide⟩, Nat.le_of_ble_eq_true rfl⟩ (Nat.le_of_ble_eq_true rfl) (c_X10_isLength hW ?_)
    refine X.nrm (pc' := 14) (ls' := [(0, vR 265), (1, vI x1), (2, vI x2), (3, vI x3), (4, vI x4)]) (st' := [vI (bI (1 ≤ x3 ∧ x3 ≤ 20))]) (k' := 0) (n' := 0) rfl rfl rfl rfl rfl ?_
    refine X.if_eq (pc := 14) 31 dX10_only_14 (by decide) ⟨fun q9 => ?_, fun q9 => ?_⟩
    · have h := h.1 (bI_eq.mp q9)
      refine X.bipush (pc := 31) (y := -2) dX10_only_31 rfl ⟨by decide, by decide⟩ ?_
      exact X.iret (pc := 33) dX10_only_33 rfl (Nat.le_of_ble_eq_true rfl) (Nat.le_of_ble_eq_true rfl) h
    · have h := h.2 (bI_ne.mp q9)
      refine X.iload (pc := 17) (i := 4) 4 dX10_only_17 rfl ?_
      refine X.callS (pc := 19) (vs := [vI x4]) (st := []) dX10_only_19 rfl okM_X10_isLength rfl lk_X10_161 stat_X10_isLength ⟨⟨by decide, by decide⟩, ⟨by decide, by decide⟩, Nat.le_of_ble_eq_true rfl⟩ (Nat.le_of_ble_eq_true rfl) (c_X10_isLength hW ?_)
      refine X.nrm (pc' := 22) (ls' := [(0, vR 265), (1, vI x1), (2, vI x2), (3, vI x3), (4, vI x4)]) (st' := [vI (bI (1 ≤ x4 ∧ x4 ≤ 20))]) (k' := 0) (n' := 0) rfl rfl rfl rfl rfl ?_
      refine X.if_eq (pc := 22) 31 dX10_only_22 (by decide) ⟨fun q9 => ?_, fun q9 => ?_⟩
      · have h := h.1 (bI_eq.mp q9)
        refine X.bipush (pc := 31) (y := -2) dX10_only_31 rfl ⟨by decide, by decide⟩ ?_
        exact X.iret (pc := 33) dX10_only_33 rfl (Nat.le_of_ble_eq_true rfl) (Nat.le_of_ble_eq_true rfl) h
      · have h := h.2 (bI_ne.mp q9)
        refine X.iload_n (pc := 25) (i := 3) 3 dX10_only_25 rfl rfl ?_
        refine X.iload (pc := 26) (i := 4) 4 dX10_only_26 rfl ?_
        refine X.icmp_le (pc := 28) 34 dX10_only_28 (by decide) ⟨fun q9 => ?_, fun q9 => ?_⟩
        · have h := h.1 q9
          refine X.iconst (pc := 34) dX10_only_34 ⟨by decide, by decide⟩ ?_
          refine X.iload_n (pc := 35) (i := 1) 1 dX10_only_35 rfl rfl ?_
          refine X.imul (pc := 36) dX10_only_36 ?_
          refine X.iload_n (pc := 37) (i := 2) 2 dX10_only_37 rfl rfl ?_
          refine X.if_eq (pc := 38) 45 dX10_only_38 (by decide) ⟨fun q9 => ?_, fun q9 => ?_⟩
          · have h := h.1 q9
            refine X.iconst (pc := 45) dX10_only_45 ⟨by decide, by decide⟩ ?_
            exact X.pick [0, 3, 4] rfl h
          · have h := h.2 q9
            refine X.iconst (pc := 41) dX10_only_41 ⟨by decide, by decide⟩ ?_
            refine X.goto (pc := 42) (tgt := 46) dX10_only_42 (by decide) ?_
            exact X.pick [0, 3, 4] rfl h
        · have h := h.2 q9
          refine X.bipush (pc := 31) (y := -2) dX10_only_31 rfl ⟨by decide, by decide⟩ ?_
          exact X.iret (pc := 33) dX10_only_33 rfl (Nat.le_of_ble_eq_true rfl) (Nat.le_of_ble_eq_true rfl) h
  · have h := h.2 (bI_eq.mp q9)
    refine X.iconst (pc := 8) dX10_only_8 ⟨by decide, by decide⟩ ?_
    exact X.iret (pc := 9) dX10_only_9 rfl (Nat.le_of_ble_eq_true rfl) (Nat.le_of_ble_eq_true rfl) h

theorem g_X10_only_46 {sh : List (Nat × Nat)} {ν : Nat → Nat → Option Nat} {μ : Nat → Nat → Int} {f s : Nat} {Q : xQ} (hW : WF sh ν f s) {x3 : Int} {x4 : Int} {y0 : Int} {y1 : Int}
    (h : (0 ≤ (w32 (y0 + y1)) ∧ (w32 (y0 + y1)) < (160 : Nat)) ∧ (0 ≤ (w32 ((w32 (y0 + y1)) + 1)) ∧ (w32 ((w32 (y0 + y1)) + 1)) < (160 : Nat)) ∧ Q (some (vI 1)) sh (ν) (up (up (up (up μ 274 (Int.toNat (w32 (y0 + y1))) x3) 274 (Int.toNat (w32 ((w32 (y0 + y1)) + 1))) x4) 265 49 0) 265 50 0)) :
    X mX10_only 46 [(0, vR 265), (3, vI x3), (4, vI x4)] [vI y1, vI y0] sh ν μ 0 0 Q := by
  refine X.iadd (pc := 46) dX10_only_46 ?_
  refine X.istore (pc := 47) (i := 5) (ls' := [(5, vI (w32 (y0 + y1))), (0, vR 265), (3, vI x3), (4, vI x4)]) dX10_only_47 (by decide) rfl ?_
  refine X.aload_n (pc := 49) (i := 0) 1 dX10_only_49 rfl rfl ?_
  refine X.getR (pc := 50) (b := 274) dX10_only_50 fl_X10_35 rfl (fs_X10 hW) (fp_X10_9 hW) ?_
  refine X.iload (pc := 53) (i := 5) 0 dX10_only_53 rfl ?_
  refine X.iload_n (pc := 55) (i := 3) 2 dX10_only_55 rfl rfl ?_
  obtain ⟨c1, h⟩ := h
  refine X.iastore (pc := 56) dX10_only_56 (fa_X10_9 hW) c1 ?_
  refine X.aload_n (pc := 57) (i := 0) 1 dX10_only_57 rfl rfl ?_
  refine X.getR (pc := 58) (b := 274) dX10_only_58 fl_X10_35 rfl (fs_X10 hW) (fp_X10_9 hW) ?_
  refine X.iload (pc := 61) (i := 5) 0 dX10_only_61 rfl ?_
  refine X.iconst (pc := 63) dX10_only_63 ⟨by decide, by decide⟩ ?_
  refine X.iadd (pc := 64) dX10_only_64 ?_
  refine X.iload (pc := 65) (i := 4) 3 dX10_only_65 rfl ?_
  obtain ⟨c2, h⟩ := h
  refine X.iastore (pc := 67) dX10_only_67 (fa_X10_9 hW) c2 ?_
  refine X.aload_n (pc := 68) (i := 0) 1 dX10_only_68 rfl rfl ?_
  refine X.pick [] rfl ?_
  refine X.callV (pc := 69) (vs := []) (st := []) dX10_only_69 rfl okM_X10_forget rfl lk_X10_132 inst_X10_forget sel_X10_forget (fs_X10 hW) rfl ⟨⟨by decide, by decide⟩, ⟨by decide, by decide⟩, Nat.le_of_ble_eq_true rfl⟩ (Nat.le_of_ble_eq_true rfl) ?_
  refine X.nrm (pc' := 0) (ls' := [(0, vR 265)]) (st' := []) (k' := 0) (n' := 0) rfl rfl rfl rfl rfl ?_
  refine X.aload_n (pc := 0) (i := 0) 0 dX10_forget_0 rfl rfl ?_
  refine X.iconst (pc := 1) dX10_forget_1 ⟨by decide, by decide⟩ ?_
  refine X.putI (pc := 2) dX10_forget_2 fl_X10_276 rfl (fun h9 => by cases h9) (fs_X10 hW) (Or.inr (Or.inl rfl)) ?_
  refine X.aload_n (pc := 5) (i := 0) 0 dX10_forget_5 rfl rfl ?_
  refine X.iconst (pc := 6) dX10_forget_6 ⟨by decide, by decide⟩ ?_
  refine X.putI (pc := 7) dX10_forget_7 fl_X10_214 rfl (fun h9 => by cases h9) (fs_X10 hW) (Or.inr (Or.inl rfl)) ?_
  refine X.vret (pc := 10) dX10_forget_10 rfl (Nat.le_of_ble_eq_true rfl) (Nat.le_of_ble_eq_true rfl) ?_
  refine X.nrm (pc' := 72) (ls' := []) (st' := []) (k' := 0) (n' := 0) rfl rfl rfl rfl rfl ?_
  refine X.iconst (pc := 72) dX10_only_72 ⟨by decide, by decide⟩ ?_
  exact X.iret (pc := 73) dX10_only_73 rfl (Nat.le_of_ble_eq_true rfl) (Nat.le_of_ble_eq_true rfl) h

theorem g_X10_rule_0 {sh : List (Nat × Nat)} {ν : Nat → Nat → Option Nat} {μ : Nat → Nat → Int} {f s : Nat} {Q : xQ} (hW : WF sh ν f s) {x1 : Int} {x2 : Int}
    (h : (0 ≤ (μ) 265 0 ∧ (μ) 265 0 ≤ 40) ∧ (((0 ≤ x1 ∧ x1 < (μ) 265 0) → ((x2 = 0 → (0 ≤ x1 ∧ x1 < (40 : Nat)) ∧ Q (some (vI ((μ) 266 (Int.toNat x1)))) sh (ν) (μ)) ∧ (x2 = 1 → (0 ≤ x1 ∧ x1 < (40 : Nat)) ∧ Q (some (vI ((μ) 267 (Int.toNat x1)))) sh (ν) (μ)) ∧ (x2 = 2 → (0 ≤ x1 ∧ x1 < (40 : Nat)) ∧ Q (some (vI ((μ) 268 (Int.toNat x1)))) sh (ν) (μ)) ∧ (x2 = 3 → (0 ≤ x1 ∧ x1 < (40 : Nat)) ∧ Q (some (vI ((μ) 270 (Int.toNat x1)))) sh (ν) (μ)) ∧ (x2 = 4 → (0 ≤ x1 ∧ x1 < (40 : Nat)) ∧ Q (some (vI ((μ) 269 (Int.toNat x1)))) sh (ν) (μ)) ∧ (x2 < 0 ∨ 4 < x2 → Q (some (vI (-2))) sh (ν) (μ)))) ∧ (¬ (0 ≤ x1 ∧ x1 < (μ) 265 0) → Q (some (vI (-1))) sh (ν) (μ)))) :
    X mX10_rule 0 [(0, vR 265), (1, vI x1), (2, vI x2)] [] sh ν μ 0 0 Q := by
  refine X.aload_n (pc := 0) (i := 0) 0 dX10_rule_0 rfl rfl ?_
  refine X.iload_n (pc := 1) (i := 1) 1 dX10_rule_1 rfl rfl ?_
  obtain ⟨c1, h⟩ := h
  refine X.callV (pc := 2) (vs := [vI x1]) (st := []) dX10_rule_2 rfl okM_X10_isRule rfl lk_X10_158 inst_X10_isRule sel_X10_isRule (fs_X10 hW) rfl ⟨⟨by decide, by decide⟩, ⟨by decide, by decide⟩, Nat.le_of_ble_eq_true rfl⟩ (Nat.le_of_ble_eq_true rfl) (c_X10_isRule hW c1 ?_)
  refine X.nrm (pc' := 5) (ls' := [(0, vR 265), (1, vI x1), (2, vI x2)]) (st' := [vI (bI (0 ≤ x1 ∧ x1 < (μ) 265 0))]) (k' := 0) (n' := 0) rfl rfl rfl rfl rfl ?_
  refine X.if_ne (pc := 5) 10 dX10_rule_5 (by decide) ⟨fun q9 => ?_, fun q9 => ?_⟩
  · have h := h.1 (bI_ne.mp q9)
    refine X.iload_n (pc := 10) (i := 2) 2 dX10_rule_10 rfl rfl ?_
    rcases Classical.em (0 ≤ x2 ∧ x2 ≤ 4) with q9 | q9
    · have q8 : x2 = 0 ∨ x2 = 1 ∨ x2 = 2 ∨ x2 = 3 ∨ x2 = 4 := by omega
      rcases q8 with q8 | q8 | q8 | q8 | q8
      · have h := h.1 q8
        refine X.tsIn (pc := 11) (off := 33) 44 dX10_rule_11 q9.1 q9.2 (by rw [q8]; rfl) (by decide) ?_
        refine X.aload_n (pc := 44) (i := 0) 0 dX10_rule_44 rfl rfl ?_
        refine X.getR (pc := 45) (b := 266) dX10_rule_45 fl_X10_7 rfl (fs_X10 hW) (fp_X10_1 hW) ?_
        refine X.iload_n (pc := 48) (i := 1) 1 dX10_rule_48 rfl rfl ?_
        obtain ⟨c2, h⟩ := h
        refine X.iaload (pc := 49) dX10_rule_49 (fa_X10_1 hW) c2 ?_
        exact X.iret (pc := 50) dX10_rule_50 rfl (Nat.le_of_ble_eq_true rfl) (Nat.le_of_ble_eq_true rfl) h
      · have h := h.2.1 q8
        refine X.tsIn (pc := 11) (off := 40) 51 dX10_rule_11 q9.1 q9.2 (by rw [q8]; rfl) (by decide) ?_
        refine X.aload_n (pc := 51) (i := 0) 0 dX10_rule_51 rfl rfl ?_
        refine X.getR (pc := 52) (b := 267) dX10_rule_52 fl_X10_13 rfl (fs_X10 hW) (fp_X10_2 hW) ?_
        refine X.iload_n (pc := 55) (i := 1) 1 dX10_rule_55 rfl rfl ?_
        obtain ⟨c3, h⟩ := h
        refine X.iaload (pc := 56) dX10_rule_56 (fa_X10_2 hW) c3 ?_
        exact X.iret (pc := 57) dX10_rule_57 rfl (Nat.le_of_ble_eq_true rfl) (Nat.le_of_ble_eq_true rfl) h
      · have h := h.2.2.1 q8
        refine X.tsIn (pc := 11) (off := 47) 58 dX10_rule_11 q9.1 q9.2 (by rw [q8]; rfl) (by decide) ?_
        refine X.aload_n (pc := 58) (i := 0) 0 dX10_rule_58 rfl rfl ?_
        refine X.getR (pc := 59) (b := 268) dX10_rule_59 fl_X10_16 rfl (fs_X10 hW) (fp_X10_3 hW) ?_
        refine X.iload_n (pc := 62) (i := 1) 1 dX10_rule_62 rfl rfl ?_
        obtain ⟨c4, h⟩ := h
        refine X.iaload (pc := 63) dX10_rule_63 (fa_X10_3 hW) c4 ?_
        exact X.iret (pc := 64) dX10_rule_64 rfl (Nat.le_of_ble_eq_true rfl) (Nat.le_of_ble_eq_true rfl) h
      · have h := h.2.2.2.1 q8
        refine X.tsIn (pc := 11) (off := 54) 65 dX10_rule_11 q9.1 q9.2 (by rw [q8]; rfl) (by decide) ?_
        refine X.aload_n (pc := 65) (i := 0) 0 dX10_rule_65 rfl rfl ?_
        refine X.getR (pc := 66) (b := 270) dX10_rule_66 fl_X10_22 rfl (fs_X10 hW) (fp_X10_5 hW) ?_
        refine X.iload_n (pc := 69) (i := 1) 1 dX10_rule_69 rfl rfl ?_
        obtain ⟨c5, h⟩ := h
        refine X.iaload (pc := 70) dX10_rule_70 (fa_X10_5 hW) c5 ?_
        exact X.iret (pc := 71) dX10_rule_71 rfl (Nat.le_of_ble_eq_true rfl) (Nat.le_of_ble_eq_true rfl) h
      · have h := h.2.2.2.2.1 q8
        refine X.tsIn (pc := 11) (off := 61) 72 dX10_rule_11 q9.1 q9.2 (by rw [q8]; rfl) (by decide) ?_
        refine X.aload_n (pc := 72) (i := 0) 0 dX10_rule_72 rfl rfl ?_
        refine X.getR (pc := 73) (b := 269) dX10_rule_73 fl_X10_19 rfl (fs_X10 hW) (fp_X10_4 hW) ?_
        refine X.iload_n (pc := 76) (i := 1) 1 dX10_rule_76 rfl rfl ?_
        obtain ⟨c6, h⟩ := h
        refine X.iaload (pc := 77) dX10_rule_77 (fa_X10_4 hW) c6 ?_
        exact X.iret (pc := 78) dX10_rule_78 rfl (Nat.le_of_ble_eq_true rfl) (Nat.le_of_ble_eq_true rfl) h
    · have q8 : x2 < 0 ∨ 4 < x2 := by omega
      have h := h.2.2.2.2.2 q8
      refine X.tsOut (pc := 11) 79 dX10_rule_11 q8 (by decide) ?_
      refine X.bipush (pc := 79) (y := -2) dX10_rule_79 rfl ⟨by decide, by decide⟩ ?_
      exact X.iret (pc := 81) dX10_rule_81 rfl (Nat.le_of_ble_eq_true rfl) (Nat.le_of_ble_eq_true rfl) h
  · have h := h.2 (bI_eq.mp q9)
    refine X.iconst (pc := 8) dX10_rule_8 ⟨by decide, by decide⟩ ?_
    exact X.iret (pc := 9) dX10_rule_9 rfl (Nat.le_of_ble_eq_true rfl) (Nat.le_of_ble_eq_true rfl) h

theorem g_X10_lay_0 {sh : List (Nat × Nat)} {ν : Nat → Nat → Option Nat} {μ : Nat → Nat → Int} {f s : Nat} {Q : xQ} (hW : WF sh ν f s) {x1 : Int} {x2 : Int} {x3 : Int}
    (h : (0 ≤ (w32 (4 * x1)) ∧ (w32 (4 * x1)) < (160 : Nat)) ∧ (0 ≤ (w32 ((w32 (4 * x1)) + 1)) ∧ (w32 ((w32 (4 * x1)) + 1)) < (160 : Nat)) ∧ ((¬ (((μ) 274 (Int.toNat (w32 (4 * x1)))) ≤ x2 ∧ x2 ≤ ((μ) 274 (Int.toNat (w32 ((w32 (4 * x1)) + 1))))) → Q (some (vI 0)) sh (ν) (up μ 265 14 0)) ∧ ((((μ) 274 (Int.toNat (w32 (4 * x1)))) ≤ x2 ∧ x2 ≤ ((μ) 274 (Int.toNat (w32 ((w32 (4 * x1)) + 1))))) → (0 ≤ (w32 ((w32 (4 * x1)) + 2)) ∧ (w32 ((w32 (4 * x1)) + 2)) < (160 : Nat)) ∧ (0 ≤ (w32 ((w32 (4 * x1)) + 3)) ∧ (w32 ((w32 (4 * x1)) + 3)) < (160 : Nat)) ∧ (((((μ) 274 (Int.toNat (w32 ((w32 (4 * x1)) + 2)))) ≤ x3 ∧ x3 ≤ ((μ) 274 (Int.toNat (w32 ((w32 (4 * x1)) + 3))))) → (0 ≤ x1 ∧ x1 < (40 : Nat)) ∧ ((¬ ((up μ 265 14 0) 267 (Int.toNat x1) = 2 ∨ (up μ 265 14 0) 267 (Int.toNat x1) = 4) → X mX10_lay 79 [(0, vR 265), (1, vI x1)] [vI x2] sh (ν) (up μ 265 14 0) 0 0 Q) ∧ (((up μ 265 14 0) 267 (Int.toNat x1) = 2 ∨ (up μ 265 14 0) 267 (Int.toNat x1) = 4) → X mX10_lay 79 [(0, vR 265), (1, vI x1)] [vI x3] sh (ν) (up μ 265 14 0) 0 0 Q))) ∧ (¬ (((μ) 274 (Int.toNat (w32 ((w32 (4 * x1)) + 2)))) ≤ x3 ∧ x3 ≤ ((μ) 274 (Int.toNat (w32 ((w32 (4 * x1)) + 3))))) → Q (some (vI 0)) sh (ν) (up μ 265 14 0)))))) :
    X mX10_lay 0 [(0, vR 265), (1, vI x1), (2, vI x2), (3, vI x3)] [] sh ν μ 0 0 Q := by
  refine X.aload_n (pc := 0) (i := 0) 0 dX10_lay_0 rfl rfl ?_
  refine X.iconst (pc := 1) dX10_lay_1 ⟨by decide, by decide⟩ ?_
  refine X.putI (pc := 2) dX10_lay_2 fl_X10_173 rfl (fun h9 => by cases h9) (fs_X10 hW) (Or.inl rfl) ?_
  refine X.iconst (pc := 5) dX10_lay_5 ⟨by decide, by decide⟩ ?_
  refine X.iload_n (pc := 6) (i := 1) 1 dX10_lay_6 rfl rfl ?_
  refine X.imul (pc := 7) dX10_lay_7 ?_
  refine X.istore (pc := 8) (i := 4) (ls' := [(4, vI (w32 (4 * x1))), (0, vR 265), (1, vI x1), (2, vI x2), (3, vI x3)]) dX10_lay_8 (by decide) rfl ?_
  refine X.iload_n (pc := 10) (i := 2) 3 dX10_lay_10 rfl rfl ?_
  refine X.i2l (pc := 11) dX10_lay_11 ?_
  refine X.aload_n (pc := 12) (i := 0) 1 dX10_lay_12 rfl rfl ?_
  refine X.getR (pc := 13) (b := 274) dX10_lay_13 fl_X10_35 rfl (fs_X10 hW) (fp_X10_9 hW) ?_
  refine X.iload (pc := 16) (i := 4) 0 dX10_lay_16 rfl ?_
  obtain ⟨c1, h⟩ := h
  refine X.iaload (pc := 18) dX10_lay_18 (fa_X10_9 hW) c1 ?_
  refine X.topI (y := ((μ) 274 (Int.toNat (w32 (4 * x1))))) ((up_a (by decide) _)) ?_
  refine X.i2l (pc := 19) dX10_lay_19 ?_
  refine X.aload_n (pc := 20) (i := 0) 1 dX10_lay_20 rfl rfl ?_
  refine X.getR (pc := 21) (b := 274) dX10_lay_21 fl_X10_35 rfl (fs_X10 hW) (fp_X10_9 hW) ?_
  refine X.iload (pc := 24) (i := 4) 0 dX10_lay_24 rfl ?_
  refine X.iconst (pc := 26) dX10_lay_26 ⟨by decide, by decide⟩ ?_
  refine X.iadd (pc := 27) dX10_lay_27 ?_
  obtain ⟨c2, h⟩ := h
  refine X.iaload (pc := 28) dX10_lay_28 (fa_X10_9 hW) c2 ?_
  refine X.topI (y := ((μ) 274 (Int.toNat (w32 ((w32 (4 * x1)) + 1))))) ((up_a (by decide) _)) ?_
  refine X.i2l (pc := 29) dX10_lay_29 ?_
  refine X.pick [1, 2, 3, 4, 0] rfl ?_
  refine X.callS (pc := 30) (vs := [vL x2, vL ((μ) 274 (Int.toNat (w32 (4 * x1)))), vL ((μ) 274 (Int.toNat (w32 ((w32 (4 * x1)) + 1))))]) (st := []) dX10_lay_30 rfl okM_X10_in rfl lk_X10_124 stat_X10_in ⟨⟨by decide, by decide⟩, ⟨by decide, by decide⟩, Nat.le_of_ble_eq_true rfl⟩ (Nat.le_of_ble_eq_true rfl) (c_X10_in hW ?_)
  refine X.nrm (pc' := 33) (ls' := [(0, vR 265), (1, vI x1), (2, vI x2), (3, vI x3), (4, vI (w32 (4 * x1)))]) (st' := [vI (bI (((μ) 274 (Int.toNat (w32 (4 * x1)))) ≤ x2 ∧ x2 ≤ ((μ) 274 (Int.toNat (w32 ((w32 (4 * x1)) + 1))))))]) (k' := 0) (n' := 0) rfl rfl rfl rfl rfl ?_
  refine X.if_eq (pc := 33) 64 dX10_lay_33 (by decide) ⟨fun q9 => ?_, fun q9 => ?_⟩
  · have h := h.1 (bI_eq.mp q9)
    refine X.iconst (pc := 64) dX10_lay_64 ⟨by decide, by decide⟩ ?_
    exact X.zret (pc := 65) dX10_lay_65 rfl (by decide) (Nat.le_of_ble_eq_true rfl) (Nat.le_of_ble_eq_true rfl) h
  · have h := h.2 (bI_ne.mp q9)
    refine X.iload_n (pc := 36) (i := 3) 3 dX10_lay_36 rfl rfl ?_
    refine X.i2l (pc := 37) dX10_lay_37 ?_
    refine X.aload_n (pc := 38) (i := 0) 0 dX10_lay_38 rfl rfl ?_
    refine X.getR (pc := 39) (b := 274) dX10_lay_39 fl_X10_35 rfl (fs_X10 hW) (fp_X10_9 hW) ?_
    refine X.iload (pc := 42) (i := 4) 4 dX10_lay_42 rfl ?_
    refine X.iconst (pc := 44) dX10_lay_44 ⟨by decide, by decide⟩ ?_
    refine X.iadd (pc := 45) dX10_lay_45 ?_
    obtain ⟨c3, h⟩ := h
    refine X.iaload (pc := 46) dX10_lay_46 (fa_X10_9 hW) c3 ?_
    refine X.topI (y := ((μ) 274 (Int.toNat (w32 ((w32 (4 * x1)) + 2))))) ((up_a (by decide) _)) ?_
    refine X.i2l (pc := 47) dX10_lay_47 ?_
    refine X.aload_n (pc := 48) (i := 0) 0 dX10_lay_48 rfl rfl ?_
    refine X.getR (pc := 49) (b := 274) dX10_lay_49 fl_X10_35 rfl (fs_X10 hW) (fp_X10_9 hW) ?_
    refine X.iload (pc := 52) (i := 4) 4 dX10_lay_52 rfl ?_
    refine X.iconst (pc := 54) dX10_lay_54 ⟨by decide, by decide⟩ ?_
    refine X.iadd (pc := 55) dX10_lay_55 ?_
    obtain ⟨c4, h⟩ := h
    refine X.iaload (pc := 56) dX10_lay_56 (fa_X10_9 hW) c4 ?_
    refine X.topI (y := ((μ) 274 (Int.toNat (w32 ((w32 (4 * x1)) + 3))))) ((up_a (by decide) _)) ?_
    refine X.i2l (pc := 57) dX10_lay_57 ?_
    refine X.pick [0, 1, 2, 3] rfl ?_
    refine X.callS (pc := 58) (vs := [vL x3, vL ((μ) 274 (Int.toNat (w32 ((w32 (4 * x1)) + 2)))), vL ((μ) 274 (Int.toNat (w32 ((w32 (4 * x1)) + 3))))]) (st := []) dX10_lay_58 rfl okM_X10_in rfl lk_X10_124 stat_X10_in ⟨⟨by decide, by decide⟩, ⟨by decide, by decide⟩, Nat.le_of_ble_eq_true rfl⟩ (Nat.le_of_ble_eq_true rfl) (c_X10_in hW ?_)
    refine X.nrm (pc' := 61) (ls' := [(0, vR 265), (1, vI x1), (2, vI x2), (3, vI x3)]) (st' := [vI (bI (((μ) 274 (Int.toNat (w32 ((w32 (4 * x1)) + 2)))) ≤ x3 ∧ x3 ≤ ((μ) 274 (Int.toNat (w32 ((w32 (4 * x1)) + 3))))))]) (k' := 0) (n' := 0) rfl rfl rfl rfl rfl ?_
    refine X.if_ne (pc := 61) 66 dX10_lay_61 (by decide) ⟨fun q9 => ?_, fun q9 => ?_⟩
    · have h := h.1 (bI_ne.mp q9)
      refine X.aload_n (pc := 66) (i := 0) 0 dX10_lay_66 rfl rfl ?_
      refine X.iload_n (pc := 67) (i := 1) 1 dX10_lay_67 rfl rfl ?_
      obtain ⟨c5, h⟩ := h
      refine X.callV (pc := 68) (vs := [vI x1]) (st := []) dX10_lay_68 rfl okM_X10_isAlongY rfl lk_X10_176 inst_X10_isAlongY sel_X10_isAlongY (fs_X10 hW) rfl ⟨⟨by decide, by decide⟩, ⟨by decide, by decide⟩, Nat.le_of_ble_eq_true rfl⟩ (Nat.le_of_ble_eq_true rfl) (c_X10_isAlongY hW c5 ?_)
      refine X.nrm (pc' := 71) (ls' := [(0, vR 265), (1, vI x1), (2, vI x2), (3, vI x3)]) (st' := [vI (bI ((up μ 265 14 0) 267 (Int.toNat x1) = 2 ∨ (up μ 265 14 0) 267 (Int.toNat x1) = 4))]) (k' := 0) (n' := 0) rfl rfl rfl rfl rfl ?_
      refine X.if_eq (pc := 71) 78 dX10_lay_71 (by decide) ⟨fun q9 => ?_, fun q9 => ?_⟩
      · have h := h.1 (bI_eq.mp q9)
        refine X.iload_n (pc := 78) (i := 2) 2 dX10_lay_78 rfl rfl ?_
        exact X.pick [0, 1] rfl h
      · have h := h.2 (bI_ne.mp q9)
        refine X.iload_n (pc := 74) (i := 3) 3 dX10_lay_74 rfl rfl ?_
        refine X.goto (pc := 75) (tgt := 79) dX10_lay_75 (by decide) ?_
        exact X.pick [0, 1] rfl h
    · have h := h.2 (bI_eq.mp q9)
      refine X.iconst (pc := 64) dX10_lay_64 ⟨by decide, by decide⟩ ?_
      exact X.zret (pc := 65) dX10_lay_65 rfl (by decide) (Nat.le_of_ble_eq_true rfl) (Nat.le_of_ble_eq_true rfl) h

theorem g_X10_lay_79 {sh : List (Nat × Nat)} {ν : Nat → Nat → Option Nat} {μ : Nat → Nat → Int} {f s : Nat} {Q : xQ} (hW : WF sh ν f s) {x1 : Int} {y0 : Int}
    (h : (0 ≤ x1 ∧ x1 < (40 : Nat)) ∧ ((((μ) 267 (Int.toNat x1)) = 0 → Q (some (vI 1)) sh (ν) (μ)) ∧ (((μ) 267 (Int.toNat x1)) ≠ 0 → (0 ≤ x1 ∧ x1 < (40 : Nat)) ∧ ((3 ≤ ((μ) 267 (Int.toNat x1)) → X mX10_layRepeat 0 [(0, vR 265), (1, vI x1), (2, vI y0)] [] sh (ν) (μ) 0 0 (fun v sh' ν' μ' => X mX10_lay 120 [] (v.toList ++ []) sh' ν' μ' 0 0 Q)) ∧ (((μ) 267 (Int.toNat x1)) < 3 → X mX10_laySplit 0 [(0, vR 265), (1, vI x1), (2, vI y0)] [] sh (ν) (μ) 0 0 (fun v sh' ν' μ' => X mX10_lay 107 [] (v.toList ++ []) sh' ν' μ' 0 0 Q)))))) :
    X mX10_lay 79 [(0, vR 265), (1, vI x1)] [vI y0] sh ν μ 0 0 Q := by
  refine X.istore (pc := 79) (i := 5) (ls' := [(5, vI y0), (0, vR 265), (1, vI x1)]) dX10_lay_79 (by decide) rfl ?_
  refine X.aload_n (pc := 81) (i := 0) 1 dX10_lay_81 rfl rfl ?_
  refine X.getR (pc := 82) (b := 267) dX10_lay_82 fl_X10_13 rfl (fs_X10 hW) (fp_X10_2 hW) ?_
  refine X.iload_n (pc := 85) (i := 1) 2 dX10_lay_85 rfl rfl ?_
  obtain ⟨c1, h⟩ := h
  refine X.iaload (pc := 86) dX10_lay_86 (fa_X10_2 hW) c1 ?_
  refine X.if_eq (pc := 87) 123 dX10_lay_87 (by decide) ⟨fun q9 => ?_, fun q9 => ?_⟩
  · have h := h.1 q9
    refine X.iconst (pc := 123) dX10_lay_123 ⟨by decide, by decide⟩ ?_
    refine X.goto (pc := 124) (tgt := 128) dX10_lay_124 (by decide) ?_
    exact X.zret (pc := 128) dX10_lay_128 rfl (by decide) (Nat.le_of_ble_eq_true rfl) (Nat.le_of_ble_eq_true rfl) h
  · have h := h.2 q9
    refine X.aload_n (pc := 90) (i := 0) 1 dX10_lay_90 rfl rfl ?_
    refine X.getR (pc := 91) (b := 267) dX10_lay_91 fl_X10_13 rfl (fs_X10 hW) (fp_X10_2 hW) ?_
    refine X.iload_n (pc := 94) (i := 1) 2 dX10_lay_94 rfl rfl ?_
    obtain ⟨c2, h⟩ := h
    refine X.iaload (pc := 95) dX10_lay_95 (fa_X10_2 hW) c2 ?_
    refine X.iconst (pc := 96) dX10_lay_96 ⟨by decide, by decide⟩ ?_
    refine X.icmp_ge (pc := 97) 113 dX10_lay_97 (by decide) ⟨fun q9 => ?_, fun q9 => ?_⟩
    · have h := h.1 q9
      refine X.aload_n (pc := 113) (i := 0) 1 dX10_lay_113 rfl rfl ?_
      refine X.iload_n (pc := 114) (i := 1) 2 dX10_lay_114 rfl rfl ?_
      refine X.iload (pc := 115) (i := 5) 0 dX10_lay_115 rfl ?_
      refine X.pick [] rfl ?_
      exact X.callV (pc := 117) (vs := [vI x1, vI y0]) (st := []) dX10_lay_117 rfl okM_X10_layRepeat rfl lk_X10_183 inst_X10_layRepeat sel_X10_layRepeat (fs_X10 hW) rfl ⟨⟨by decide, by decide⟩, ⟨by decide, by decide⟩, Nat.le_of_ble_eq_true rfl⟩ (Nat.le_of_ble_eq_true rfl) h
    · have h := h.2 q9
      refine X.aload_n (pc := 100) (i := 0) 1 dX10_lay_100 rfl rfl ?_
      refine X.iload_n (pc := 101) (i := 1) 2 dX10_lay_101 rfl rfl ?_
      refine X.iload (pc := 102) (i := 5) 0 dX10_lay_102 rfl ?_
      refine X.pick [] rfl ?_
      exact X.callV (pc := 104) (vs := [vI x1, vI y0]) (st := []) dX10_lay_104 rfl okM_X10_laySplit rfl lk_X10_179 inst_X10_laySplit sel_X10_laySplit (fs_X10 hW) rfl ⟨⟨by decide, by decide⟩, ⟨by decide, by decide⟩, Nat.le_of_ble_eq_true rfl⟩ (Nat.le_of_ble_eq_true rfl) h

theorem g_X10_lay_107 {sh : List (Nat × Nat)} {ν : Nat → Nat → Option Nat} {μ : Nat → Nat → Int} {f s : Nat} {Q : xQ} (hW : WF sh ν f s) {y0 : Int}
    (h : ((y0 = 0 → Q (some (vI 0)) sh (ν) (μ)) ∧ (y0 ≠ 0 → Q (some (vI 1)) sh (ν) (μ)))) :
    X mX10_lay 107 [] [vI y0] sh ν μ 0 0 Q := by
  refine X.if_eq (pc := 107) 127 dX10_lay_107 (by decide) ⟨fun q9 => ?_, fun q9 => ?_⟩
  · have h := h.1 q9
    refine X.iconst (pc := 127) dX10_lay_127 ⟨by decide, by decide⟩ ?_
    exact X.zret (pc := 128) dX10_lay_128 rfl (by decide) (Nat.le_of_ble_eq_true rfl) (Nat.le_of_ble_eq_true rfl) h
  · have h := h.2 q9
    refine X.goto (pc := 110) (tgt := 123) dX10_lay_110 (by decide) ?_
    refine X.iconst (pc := 123) dX10_lay_123 ⟨by decide, by decide⟩ ?_
    refine X.goto (pc := 124) (tgt := 128) dX10_lay_124 (by decide) ?_
    exact X.zret (pc := 128) dX10_lay_128 rfl (by decide) (Nat.le_of_ble_eq_true rfl) (Nat.le_of_ble_eq_true rfl) h

theorem g_X10_lay_120 {sh : List (Nat × Nat)} {ν : Nat → Nat → Option Nat} {μ : Nat → Nat → Int} {f s : Nat} {Q : xQ} (hW : WF sh ν f s) {y0 : Int}
    (h : ((y0 = 0 → Q (some (vI 0)) sh (ν) (μ)) ∧ (y0 ≠ 0 → Q (some (vI 1)) sh (ν) (μ)))) :
    X mX10_lay 120 [] [vI y0] sh ν μ 0 0 Q := by
  refine X.if_eq (pc := 120) 127 dX10_lay_120 (by decide) ⟨fun q9 => ?_, fun q9 => ?_⟩
  · have h := h.1 q9
    refine X.iconst (pc := 127) dX10_lay_127 ⟨by decide, by decide⟩ ?_
    exact X.zret (pc := 128) dX10_lay_128 rfl (by decide) (Nat.le_of_ble_eq_true rfl) (Nat.le_of_ble_eq_true rfl) h
  · have h := h.2 q9
    refine X.iconst (pc := 123) dX10_lay_123 ⟨by decide, by decide⟩ ?_
    refine X.goto (pc := 124) (tgt := 128) dX10_lay_124 (by decide) ?_
    exact X.zret (pc := 128) dX10_lay_128 rfl (by decide) (Nat.le_of_ble_eq_true rfl) (Nat.le_of_ble_eq_true rfl) h

theorem g_X10_holds_0 {sh : List (Nat × Nat)} {ν : Nat → Nat → Option Nat} {μ : Nat → Nat → Int} {f s : Nat} {Q : xQ} (hW : WF sh ν f s) {x1 : Int} {x2 : Int} {x3 : Int}
    (h : (0 ≤ (μ) 265 0 ∧ (μ) 265 0 ≤ 40) ∧ (((0 ≤ x1 ∧ x1 < (μ) 265 0) → ((¬ (1 ≤ x2 ∧ x2 ≤ 20) → Q (some (vI (-2))) sh (ν) (μ)) ∧ ((1 ≤ x2 ∧ x2 ≤ 20) → (((1 ≤ x3 ∧ x3 ≤ 20) → X mX10_lay 0 [(0, vR 265), (1, vI x1), (2, vI x2), (3, vI x3)] [] sh (ν) (μ) 0 0 (fun v sh' ν' μ' => X mX10_holds 36 [] (v.toList ++ []) sh' ν' μ' 0 0 Q)) ∧ (¬ (1 ≤ x3 ∧ x3 ≤ 20) → Q (some (vI (-2))) sh (ν) (μ)))))) ∧ (¬ (0 ≤ x1 ∧ x1 < (μ) 265 0) → Q (some (vI (-1))) sh (ν) (μ)))) :
    X mX10_holds 0 [(0, vR 265), (1, vI x1), (2, vI x2), (3, vI x3)] [] sh ν μ 0 0 Q := by
  refine X.aload_n (pc := 0) (i := 0) 0 dX10_holds_0 rfl rfl ?_
  refine X.iload_n (pc := 1) (i := 1) 1 dX10_holds_1 rfl rfl ?_
  obtain ⟨c1, h⟩ := h
  refine X.callV (pc := 2) (vs := [vI x1]) (st := []) dX10_holds_2 rfl okM_X10_isRule rfl lk_X10_158 inst_X10_isRule sel_X10_isRule (fs_X10 hW) rfl ⟨⟨by decide, by decide⟩, ⟨by decide, by decide⟩, Nat.le_of_ble_eq_true rfl⟩ (Nat.le_of_ble_eq_true rfl) (c_X10_isRule hW c1 ?_)
  refine X.nrm (pc' := 5) (ls' := [(0, vR 265), (1, vI x1), (2, vI x2), (3, vI x3)]) (st' := [vI (bI (0 ≤ x1 ∧ x1 < (μ) 265 0))]) (k' := 0) (n' := 0) rfl rfl rfl rfl rfl ?_
  refine X.if_ne (pc := 5) 10 dX10_holds_5 (by decide) ⟨fun q9 => ?_, fun q9 => ?_⟩
  · have h := h.1 (bI_ne.mp q9)
    refine X.iload_n (pc := 10) (i := 2) 2 dX10_holds_10 rfl rfl ?_
    refine X.callS (pc := 11) (vs := [vI x2]) (st := []) dX10_holds_11 rfl okM_X10_isLength rfl lk_X10_161 stat_X10_isLength ⟨⟨by decide, by decide⟩, ⟨by decide, by decide⟩, Nat.le_of_ble_eq_true rfl⟩ (Nat.le_of_ble_eq_true rfl) (c_X10_isLength hW ?_)
    refine X.nrm (pc' := 14) (ls' := [(0, vR 265), (1, vI x1), (2, vI x2), (3, vI x3)]) (st' := [vI (bI (1 ≤ x2 ∧ x2 ≤ 20))]) (k' := 0) (n' := 0) rfl rfl rfl rfl rfl ?_
    refine X.if_eq (pc := 14) 24 dX10_holds_14 (by decide) ⟨fun q9 => ?_, fun q9 => ?_⟩
    · have h := h.1 (bI_eq.mp q9)
      refine X.bipush (pc := 24) (y := -2) dX10_holds_24 rfl ⟨by decide, by decide⟩ ?_
      refine X.goto (pc := 26) (tgt := 44) dX10_holds_26 (by decide) ?_
      exact X.iret (pc := 44) dX10_holds_44 rfl (Nat.le_of_ble_eq_true rfl) (Nat.le_of_ble_eq_true rfl) h
    · have h := h.2 (bI_ne.mp q9)
      refine X.iload_n (pc := 17) (i := 3) 3 dX10_holds_17 rfl rfl ?_
      refine X.callS (pc := 18) (vs := [vI x3]) (st := []) dX10_holds_18 rfl okM_X10_isLength rfl lk_X10_161 stat_X10_isLength ⟨⟨by decide, by decide⟩, ⟨by decide, by decide⟩, Nat.le_of_ble_eq_true rfl⟩ (Nat.le_of_ble_eq_true rfl) (c_X10_isLength hW ?_)
      refine X.nrm (pc' := 21) (ls' := [(0, vR 265), (1, vI x1), (2, vI x2), (3, vI x3)]) (st' := [vI (bI (1 ≤ x3 ∧ x3 ≤ 20))]) (k' := 0) (n' := 0) rfl rfl rfl rfl rfl ?_
      refine X.if_ne (pc := 21) 29 dX10_holds_21 (by decide) ⟨fun q9 => ?_, fun q9 => ?_⟩
      · have h := h.1 (bI_ne.mp q9)
        refine X.aload_n (pc := 29) (i := 0) 0 dX10_holds_29 rfl rfl ?_
        refine X.iload_n (pc := 30) (i := 1) 1 dX10_holds_30 rfl rfl ?_
        refine X.iload_n (pc := 31) (i := 2) 2 dX10_holds_31 rfl rfl ?_
        refine X.iload_n (pc := 32) (i := 3) 3 dX10_holds_32 rfl rfl ?_
        refine X.pick [] rfl ?_
        exact X.callV (pc := 33) (vs := [vI x1, vI x2, vI x3]) (st := []) dX10_holds_33 rfl okM_X10_lay rfl lk_X10_186 inst_X10_lay sel_X10_lay (fs_X10 hW) rfl ⟨⟨by decide, by decide⟩, ⟨by decide, by decide⟩, Nat.le_of_ble_eq_true rfl⟩ (Nat.le_of_ble_eq_true rfl) h
      · have h := h.2 (bI_eq.mp q9)
        refine X.bipush (pc := 24) (y := -2) dX10_holds_24 rfl ⟨by decide, by decide⟩ ?_
        refine X.goto (pc := 26) (tgt := 44) dX10_holds_26 (by decide) ?_
        exact X.iret (pc := 44) dX10_holds_44 rfl (Nat.le_of_ble_eq_true rfl) (Nat.le_of_ble_eq_true rfl) h
  · have h := h.2 (bI_eq.mp q9)
    refine X.iconst (pc := 8) dX10_holds_8 ⟨by decide, by decide⟩ ?_
    exact X.iret (pc := 9) dX10_holds_9 rfl (Nat.le_of_ble_eq_true rfl) (Nat.le_of_ble_eq_true rfl) h

theorem g_X10_holds_36 {sh : List (Nat × Nat)} {ν : Nat → Nat → Option Nat} {μ : Nat → Nat → Int} {f s : Nat} {Q : xQ} (hW : WF sh ν f s) {y0 : Int}
    (h : ((y0 = 0 → Q (some (vI 0)) sh (ν) (μ)) ∧ (y0 ≠ 0 → Q (some (vI 1)) sh (ν) (μ)))) :
    X mX10_holds 36 [] [vI y0] sh ν μ 0 0 Q := by
  refine X.if_eq (pc := 36) 43 dX10_holds_36 (by decide) ⟨fun q9 => ?_, fun q9 => ?_⟩
  · have h := h.1 q9
    refine X.iconst (pc := 43) dX10_holds_43 ⟨by decide, by decide⟩ ?_
    exact X.iret (pc := 44) dX10_holds_44 rfl (Nat.le_of_ble_eq_true rfl) (Nat.le_of_ble_eq_true rfl) h
  · have h := h.2 q9
    refine X.iconst (pc := 39) dX10_holds_39 ⟨by decide, by decide⟩ ?_
    refine X.goto (pc := 40) (tgt := 44) dX10_holds_40 (by decide) ?_
    exact X.iret (pc := 44) dX10_holds_44 rfl (Nat.le_of_ble_eq_true rfl) (Nat.le_of_ble_eq_true rfl) h

theorem g_X10_piece_0 {sh : List (Nat × Nat)} {ν : Nat → Nat → Option Nat} {μ : Nat → Nat → Int} {f s : Nat} {Q : xQ} (hW : WF sh ν f s) {x1 : Int} {x2 : Int} {x3 : Int} {x4 : Int} {x5 : Int}
    (h : (0 ≤ (μ) 265 0 ∧ (μ) 265 0 ≤ 40) ∧ (((0 ≤ x1 ∧ x1 < (μ) 265 0) → ((¬ (1 ≤ x2 ∧ x2 ≤ 20) → Q (some (vI (-2))) sh (ν) (μ)) ∧ ((1 ≤ x2 ∧ x2 ≤ 20) → (((1 ≤ x3 ∧ x3 ≤ 20) → X mX10_lay 0 [(0, vR 265), (1, vI x1), (2, vI x2), (3, vI x3)] [] sh (ν) (μ) 0 0 (fun v sh' ν' μ' => X mX10_piece 34 [(0, vR 265), (4, vI x4), (5, vI x5)] (v.toList ++ []) sh' ν' μ' 0 0 Q)) ∧ (¬ (1 ≤ x3 ∧ x3 ≤ 20) → Q (some (vI (-2))) sh (ν) (μ)))))) ∧ (¬ (0 ≤ x1 ∧ x1 < (μ) 265 0) → Q (some (vI (-1))) sh (ν) (μ)))) :
    X mX10_piece 0 [(0, vR 265), (1, vI x1), (2, vI x2), (3, vI x3), (4, vI x4), (5, vI x5)] [] sh ν μ 0 0 Q := by
  refine X.aload_n (pc := 0) (i := 0) 0 dX10_piece_0 rfl rfl ?_
  refine X.iload_n (pc := 1) (i := 1) 1 dX10_piece_1 rfl rfl ?_
  obtain ⟨c1, h⟩ := h
  refine X.callV (pc := 2) (vs := [vI x1]) (st := []) dX10_piece_2 rfl okM_X10_isRule rfl lk_X10_158 inst_X10_isRule sel_X10_isRule (fs_X10 hW) rfl ⟨⟨by decide, by decide⟩, ⟨by decide, by decide⟩, Nat.le_of_ble_eq_true rfl⟩ (Nat.le_of_ble_eq_true rfl) (c_X10_isRule hW c1 ?_)
  refine X.nrm (pc' := 5) (ls' := [(0, vR 265), (1, vI x1), (2, vI x2), (3, vI x3), (4, vI x4), (5, vI x5)]) (st' := [vI (bI (0 ≤ x1 ∧ x1 < (μ) 265 0))]) (k' := 0) (n' := 0) rfl rfl rfl rfl rfl ?_
  refine X.if_ne (pc := 5) 10 dX10_piece_5 (by decide) ⟨fun q9 => ?_, fun q9 => ?_⟩
  · have h := h.1 (bI_ne.mp q9)
    refine X.iload_n (pc := 10) (i := 2) 2 dX10_piece_10 rfl rfl ?_
    refine X.callS (pc := 11) (vs := [vI x2]) (st := []) dX10_piece_11 rfl okM_X10_isLength rfl lk_X10_161 stat_X10_isLength ⟨⟨by decide, by decide⟩, ⟨by decide, by decide⟩, Nat.le_of_ble_eq_true rfl⟩ (Nat.le_of_ble_eq_true rfl) (c_X10_isLength hW ?_)
    refine X.nrm (pc' := 14) (ls' := [(0, vR 265), (1, vI x1), (2, vI x2), (3, vI x3), (4, vI x4), (5, vI x5)]) (st' := [vI (bI (1 ≤ x2 ∧ x2 ≤ 20))]) (k' := 0) (n' := 0) rfl rfl rfl rfl rfl ?_
    refine X.if_eq (pc := 14) 24 dX10_piece_14 (by decide) ⟨fun q9 => ?_, fun q9 => ?_⟩
    · have h := h.1 (bI_eq.mp q9)
      refine X.bipush (pc := 24) (y := -2) dX10_piece_24 rfl ⟨by decide, by decide⟩ ?_
      exact X.iret (pc := 26) dX10_piece_26 rfl (Nat.le_of_ble_eq_true rfl) (Nat.le_of_ble_eq_true rfl) h
    · have h := h.2 (bI_ne.mp q9)
      refine X.iload_n (pc := 17) (i := 3) 3 dX10_piece_17 rfl rfl ?_
      refine X.callS (pc := 18) (vs := [vI x3]) (st := []) dX10_piece_18 rfl okM_X10_isLength rfl lk_X10_161 stat_X10_isLength ⟨⟨by decide, by decide⟩, ⟨by decide, by decide⟩, Nat.le_of_ble_eq_true rfl⟩ (Nat.le_of_ble_eq_true rfl) (c_X10_isLength hW ?_)
      refine X.nrm (pc' := 21) (ls' := [(0, vR 265), (1, vI x1), (2, vI x2), (3, vI x3), (4, vI x4), (5, vI x5)]) (st' := [vI (bI (1 ≤ x3 ∧ x3 ≤ 20))]) (k' := 0) (n' := 0) rfl rfl rfl rfl rfl ?_
      refine X.if_ne (pc := 21) 27 dX10_piece_21 (by decide) ⟨fun q9 => ?_, fun q9 => ?_⟩
      · have h := h.1 (bI_ne.mp q9)
        refine X.aload_n (pc := 27) (i := 0) 0 dX10_piece_27 rfl rfl ?_
        refine X.iload_n (pc := 28) (i := 1) 1 dX10_piece_28 rfl rfl ?_
        refine X.iload_n (pc := 29) (i := 2) 2 dX10_piece_29 rfl rfl ?_
        refine X.iload_n (pc := 30) (i := 3) 3 dX10_piece_30 rfl rfl ?_
        refine X.pick [0, 4, 5] rfl ?_
        exact X.callV (pc := 31) (vs := [vI x1, vI x2, vI x3]) (st := []) dX10_piece_31 rfl okM_X10_lay rfl lk_X10_186 inst_X10_lay sel_X10_lay (fs_X10 hW) rfl ⟨⟨by decide, by decide⟩, ⟨by decide, by decide⟩, Nat.le_of_ble_eq_true rfl⟩ (Nat.le_of_ble_eq_true rfl) h
      · have h := h.2 (bI_eq.mp q9)
        refine X.bipush (pc := 24) (y := -2) dX10_piece_24 rfl ⟨by decide, by decide⟩ ?_
        exact X.iret (pc := 26) dX10_piece_26 rfl (Nat.le_of_ble_eq_true rfl) (Nat.le_of_ble_eq_true rfl) h
  · have h := h.2 (bI_eq.mp q9)
    refine X.iconst (pc := 8) dX10_piece_8 ⟨by decide, by decide⟩ ?_
    exact X.iret (pc := 9) dX10_piece_9 rfl (Nat.le_of_ble_eq_true rfl) (Nat.le_of_ble_eq_true rfl) h

theorem g_X10_piece_34 {sh : List (Nat × Nat)} {ν : Nat → Nat → Option Nat} {μ : Nat → Nat → Int} {f s : Nat} {Q : xQ} (hW : WF sh ν f s) {x4 : Int} {x5 : Int} {y0 : Int}
    (h : ((y0 ≠ 0 → (((0 ≤ x4 ∧ x4 ≤ (w32 (((μ) 265 14) - 1))) → ((x5 = 0 → (0 ≤ x4 ∧ x4 < (20 : Nat)) ∧ Q (some (vI ((μ) 278 (Int.toNat x4)))) sh (ν) (μ)) ∧ (x5 ≠ 0 → (0 ≤ x4 ∧ x4 < (20 : Nat)) ∧ Q (some (vI ((μ) 279 (Int.toNat x4)))) sh (ν) (μ)))) ∧ (¬ (0 ≤ x4 ∧ x4 ≤ (w32 (((μ) 265 14) - 1))) → Q (some (vI (-9))) sh (ν) (μ)))) ∧ (y0 = 0 → Q (some (vI (-3))) sh (ν) (μ)))) :
    X mX10_piece 34 [(0, vR 265), (4, vI x4), (5, vI x5)] [vI y0] sh ν μ 0 0 Q := by
  refine X.if_ne (pc := 34) 40 dX10_piece_34 (by decide) ⟨fun q9 => ?_, fun q9 => ?_⟩
  · have h := h.1 q9
    refine X.iload (pc := 40) (i := 4) 1 dX10_piece_40 rfl ?_
    refine X.i2l (pc := 42) dX10_piece_42 ?_
    refine X.lconst (pc := 43) (y := 0) dX10_piece_43 rfl ⟨by decide, by decide⟩ ?_
    refine X.aload_n (pc := 44) (i := 0) 0 dX10_piece_44 rfl rfl ?_
    refine X.getI (pc := 45) dX10_piece_45 fl_X10_173 rfl (fs_X10 hW) ?_
    refine X.iconst (pc := 48) dX10_piece_48 ⟨by decide, by decide⟩ ?_
    refine X.isub (pc := 49) dX10_piece_49 ?_
    refine X.i2l (pc := 50) dX10_piece_50 ?_
    refine X.callS (pc := 51) (vs := [vL x4, vL 0, vL (w32 (((μ) 265 14) - 1))]) (st := []) dX10_piece_51 rfl okM_X10_in rfl lk_X10_124 stat_X10_in ⟨⟨by decide, by decide⟩, ⟨by decide, by decide⟩, Nat.le_of_ble_eq_true rfl⟩ (Nat.le_of_ble_eq_true rfl) (c_X10_in hW ?_)
    refine X.nrm (pc' := 54) (ls' := [(0, vR 265), (4, vI x4), (5, vI x5)]) (st' := [vI (bI (0 ≤ x4 ∧ x4 ≤ (w32 (((μ) 265 14) - 1))))]) (k' := 0) (n' := 0) rfl rfl rfl rfl rfl ?_
    refine X.if_ne (pc := 54) 62 dX10_piece_54 (by decide) ⟨fun q9 => ?_, fun q9 => ?_⟩
    · have h := h.1 (bI_ne.mp q9)
      refine X.iload (pc := 62) (i := 5) 2 dX10_piece_62 rfl ?_
      refine X.if_eq (pc := 64) 77 dX10_piece_64 (by decide) ⟨fun q9 => ?_, fun q9 => ?_⟩
      · have h := h.1 q9
        refine X.aload_n (pc := 77) (i := 0) 0 dX10_piece_77 rfl rfl ?_
        refine X.getR (pc := 78) (b := 278) dX10_piece_78 fl_X10_47 rfl (fs_X10 hW) (fp_X10_15 hW) ?_
        refine X.iload (pc := 81) (i := 4) 1 dX10_piece_81 rfl ?_
        obtain ⟨c1, h⟩ := h
        refine X.iaload (pc := 83) dX10_piece_83 (fa_X10_15 hW) c1 ?_
        exact X.iret (pc := 84) dX10_piece_84 rfl (Nat.le_of_ble_eq_true rfl) (Nat.le_of_ble_eq_true rfl) h
      · have h := h.2 q9
        refine X.aload_n (pc := 67) (i := 0) 0 dX10_piece_67 rfl rfl ?_
        refine X.getR (pc := 68) (b := 279) dX10_piece_68 fl_X10_50 rfl (fs_X10 hW) (fp_X10_16 hW) ?_
        refine X.iload (pc := 71) (i := 4) 1 dX10_piece_71 rfl ?_
        obtain ⟨c2, h⟩ := h
        refine X.iaload (pc := 73) dX10_piece_73 (fa_X10_16 hW) c2 ?_
        refine X.goto (pc := 74) (tgt := 84) dX10_piece_74 (by decide) ?_
        exact X.iret (pc := 84) dX10_piece_84 rfl (Nat.le_of_ble_eq_true rfl) (Nat.le_of_ble_eq_true rfl) h
    · have h := h.2 (bI_eq.mp q9)
      refine X.bipush (pc := 57) (y := -9) dX10_piece_57 rfl ⟨by decide, by decide⟩ ?_
      refine X.goto (pc := 59) (tgt := 84) dX10_piece_59 (by decide) ?_
      exact X.iret (pc := 84) dX10_piece_84 rfl (Nat.le_of_ble_eq_true rfl) (Nat.le_of_ble_eq_true rfl) h
  · have h := h.2 q9
    refine X.bipush (pc := 37) (y := -3) dX10_piece_37 rfl ⟨by decide, by decide⟩ ?_
    exact X.iret (pc := 39) dX10_piece_39 rfl (Nat.le_of_ble_eq_true rfl) (Nat.le_of_ble_eq_true rfl) h

theorem g_X10_picked_0 {sh : List (Nat × Nat)} {ν : Nat → Nat → Option Nat} {μ : Nat → Nat → Int} {f s : Nat} {Q : xQ} (hW : WF sh ν f s) {x1 : Int} {x2 : Int} {x3 : Int} {x4 : Int}
    (h : X mX10_picked 6 [(0, vR 265), (1, vI x1), (2, vI x2), (3, vI x3), (4, vI x4), (5, vI 0), (6, vI 0)] [] sh (ν) (μ) 0 0 Q) :
    X mX10_picked 0 [(0, vR 265), (1, vI x1), (2, vI x2), (3, vI x3), (4, vI x4)] [] sh ν μ 0 0 Q := by
  refine X.iconst (pc := 0) dX10_picked_0 ⟨by decide, by decide⟩ ?_
  refine X.istore (pc := 1) (i := 5) (ls' := [(5, vI 0), (0, vR 265), (1, vI x1), (2, vI x2), (3, vI x3), (4, vI x4)]) dX10_picked_1 (by decide) rfl ?_
  refine X.iconst (pc := 3) dX10_picked_3 ⟨by decide, by decide⟩ ?_
  refine X.istore (pc := 4) (i := 6) (ls' := [(6, vI 0), (5, vI 0), (0, vR 265), (1, vI x1), (2, vI x2), (3, vI x3), (4, vI x4)]) dX10_picked_4 (by decide) rfl ?_
  exact X.pick [2, 3, 4, 5, 6, 1, 0] rfl h

theorem g_X10_picked_6 {sh : List (Nat × Nat)} {ν : Nat → Nat → Option Nat} {μ : Nat → Nat → Int} {f s : Nat} {Q : xQ} (hW : WF sh ν f s) {x1 : Int} {x2 : Int} {x3 : Int} {x4 : Int} {x5 : Int} {x6 : Int}
    (h : ((((μ) 265 0) ≤ x6 → ((x5 ≠ 0 → (x5 ≠ 0) ∧ X mX10_picked 85 [(0, vR 265), (1, vI x1), (3, vI x3), (4, vI x4), (6, vI (w32 (Int.tmod (xand (xshr (w32 ((w32 (x2 * 1103515245)) + 12345)) 16) 32767) x5))), (7, vI 0)] [] sh (ν) (μ) 0 0 Q) ∧ (x5 = 0 → Q (some (vI (-9))) sh (ν) (μ)))) ∧ (x6 < ((μ) 265 0) → (0 ≤ x6 ∧ x6 < (40 : Nat)) ∧ ((((μ) 266 (Int.toNat x6)) ≠ x1 → X mX10_picked 44 [(0, vR 265), (1, vI x1), (2, vI x2), (3, vI x3), (4, vI x4), (6, vI x6)] [vI x5] sh (ν) (μ) 0 0 Q) ∧ (((μ) 266 (Int.toNat x6)) = x1 → X mX10_lay 0 [(0, vR 265), (1, vI x6), (2, vI x3), (3, vI x4)] [] sh (ν) (μ) 0 0 (fun v sh' ν' μ' => X mX10_picked 37 [(0, vR 265), (1, vI x1), (2, vI x2), (3, vI x3), (4, vI x4), (6, vI x6)] (v.toList ++ [vI x5]) sh' ν' μ' 0 0 Q)))))) :
    X mX10_picked 6 [(0, vR 265), (1, vI x1), (2, vI x2), (3, vI x3), (4, vI x4), (5, vI x5), (6, vI x6)] [] sh ν μ 0 0 Q := by
  refine X.iload (pc := 6) (i := 6) 6 dX10_picked_6 rfl ?_
  refine X.aload_n (pc := 8) (i := 0) 0 dX10_picked_8 rfl rfl ?_
  refine X.getI (pc := 9) dX10_picked_9 fl_X10_128 rfl (fs_X10 hW) ?_
  refine X.icmp_ge (pc := 12) 54 dX10_picked_12 (by decide) ⟨fun q9 => ?_, fun q9 => ?_⟩
  · have h := h.1 q9
    refine X.iload (pc := 54) (i := 5) 5 dX10_picked_54 rfl ?_
    refine X.if_ne (pc := 56) 62 dX10_picked_56 (by decide) ⟨fun q9 => ?_, fun q9 => ?_⟩
    · have h := h.1 q9
      refine X.iload_n (pc := 62) (i := 2) 2 dX10_picked_62 rfl rfl ?_
      refine X.ldc (pc := 63) (y := 1103515245) dX10_picked_63 kc_X10_193 rfl ⟨by decide, by decide⟩ ?_
      refine X.imul (pc := 65) dX10_picked_65 ?_
      refine X.sipush (pc := 66) (y := 12345) dX10_picked_66 rfl ⟨by decide, by decide⟩ ?_
      refine X.iadd (pc := 69) dX10_picked_69 ?_
      refine X.bipush (pc := 70) (y := 16) dX10_picked_70 rfl ⟨by decide, by decide⟩ ?_
      refine X.ishr (pc := 72) dX10_picked_72 ?_
      refine X.sipush (pc := 73) (y := 32767) dX10_picked_73 rfl ⟨by decide, by decide⟩ ?_
      refine X.iand (pc := 76) dX10_picked_76 ?_
      refine X.iload (pc := 77) (i := 5) 5 dX10_picked_77 rfl ?_
      obtain ⟨c1, h⟩ := h
      refine X.irem (pc := 79) dX10_picked_79 c1 ?_
      refine X.istore (pc := 80) (i := 6) (ls' := [(6, vI (w32 (Int.tmod (xand (xshr (w32 ((w32 (x2 * 1103515245)) + 12345)) 16) 32767) x5))), (0, vR 265), (1, vI x1), (2, vI x2), (3, vI x3), (4, vI x4), (5, vI x5)]) dX10_picked_80 (by decide) rfl ?_
      refine X.iconst (pc := 82) dX10_picked_82 ⟨by decide, by decide⟩ ?_
      refine X.istore (pc := 83) (i := 7) (ls' := [(7, vI 0), (6, vI (w32 (Int.tmod (xand (xshr (w32 ((w32 (x2 * 1103515245)) + 12345)) 16) 32767) x5))), (0, vR 265), (1, vI x1), (2, vI x2), (3, vI x3), (4, vI x4), (5, vI x5)]) dX10_picked_83 (by decide) rfl ?_
      exact X.pick [2, 3, 5, 6, 1, 0] rfl h
    · have h := h.2 q9
      refine X.bipush (pc := 59) (y := -9) dX10_picked_59 rfl ⟨by decide, by decide⟩ ?_
      exact X.iret (pc := 61) dX10_picked_61 rfl (Nat.le_of_ble_eq_true rfl) (Nat.le_of_ble_eq_true rfl) h
  · have h := h.2 q9
    refine X.iload (pc := 15) (i := 5) 5 dX10_picked_15 rfl ?_
    refine X.aload_n (pc := 17) (i := 0) 0 dX10_picked_17 rfl rfl ?_
    refine X.getR (pc := 18) (b := 266) dX10_picked_18 fl_X10_7 rfl (fs_X10 hW) (fp_X10_1 hW) ?_
    refine X.iload (pc := 21) (i := 6) 6 dX10_picked_21 rfl ?_
    obtain ⟨c2, h⟩ := h
    refine X.iaload (pc := 23) dX10_picked_23 (fa_X10_1 hW) c2 ?_
    refine X.iload_n (pc := 24) (i := 1) 1 dX10_picked_24 rfl rfl ?_
    refine X.icmp_ne (pc := 25) 44 dX10_picked_25 (by decide) ⟨fun q9 => ?_, fun q9 => ?_⟩
    · have h := h.1 q9
      exact X.pick [0, 1, 2, 3, 4, 6] rfl h
    · have h := h.2 q9
      refine X.aload_n (pc := 28) (i := 0) 0 dX10_picked_28 rfl rfl ?_
      refine X.iload (pc := 29) (i := 6) 6 dX10_picked_29 rfl ?_
      refine X.iload_n (pc := 31) (i := 3) 3 dX10_picked_31 rfl rfl ?_
      refine X.iload (pc := 32) (i := 4) 4 dX10_picked_32 rfl ?_
      refine X.pick [0, 1, 2, 3, 4, 6] rfl ?_
      exact X.callV (pc := 34) (vs := [vI x6, vI x3, vI x4]) (st := [vI x5]) dX10_picked_34 rfl okM_X10_lay rfl lk_X10_186 inst_X10_lay sel_X10_lay (fs_X10 hW) rfl ⟨⟨by decide, by decide⟩, ⟨by decide, by decide⟩, Nat.le_of_ble_eq_true rfl⟩ (Nat.le_of_ble_eq_true rfl) h

theorem g_X10_picked_37 {sh : List (Nat × Nat)} {ν : Nat → Nat → Option Nat} {μ : Nat → Nat → Int} {f s : Nat} {Q : xQ} (hW : WF sh ν f s) {x1 : Int} {x2 : Int} {x3 : Int} {x4 : Int} {x6 : Int} {y0 : Int} {y1 : Int}
    (h : ((y1 = 0 → X mX10_picked 44 [(0, vR 265), (1, vI x1), (2, vI x2), (3, vI x3), (4, vI x4), (6, vI x6)] [vI y0] sh (ν) (μ) 0 0 Q) ∧ (y1 ≠ 0 → X mX10_picked 45 [(0, vR 265), (1, vI x1), (2, vI x2), (3, vI x3), (4, vI x4), (6, vI x6)] [vI 1, vI y0] sh (ν) (μ) 0 0 Q))) :
    X mX10_picked 37 [(0, vR 265), (1, vI x1), (2, vI x2), (3, vI x3), (4, vI x4), (6, vI x6)] [vI y1, vI y0] sh ν μ 0 0 Q := by
  refine X.if_eq (pc := 37) 44 dX10_picked_37 (by decide) ⟨fun q9 => ?_, fun q9 => ?_⟩
  · have h := h.1 q9
    exact h
  · have h := h.2 q9
    refine X.iconst (pc := 40) dX10_picked_40 ⟨by decide, by decide⟩ ?_
    refine X.goto (pc := 41) (tgt := 45) dX10_picked_41 (by decide) ?_
    exact h

theorem g_X10_picked_44 {sh : List (Nat × Nat)} {ν : Nat → Nat → Option Nat} {μ : Nat → Nat → Int} {f s : Nat} {Q : xQ} (hW : WF sh ν f s) {x1 : Int} {x2 : Int} {x3 : Int} {x4 : Int} {x6 : Int} {y0 : Int}
    (h : X mX10_picked 45 [(0, vR 265), (1, vI x1), (2, vI x2), (3, vI x3), (4, vI x4), (6, vI x6)] [vI 0, vI y0] sh (ν) (μ) 0 0 Q) :
    X mX10_picked 44 [(0, vR 265), (1, vI x1), (2, vI x2), (3, vI x3), (4, vI x4), (6, vI x6)] [vI y0] sh ν μ 0 0 Q := by
  refine X.iconst (pc := 44) dX10_picked_44 ⟨by decide, by decide⟩ ?_
  exact h

theorem g_X10_picked_45 {sh : List (Nat × Nat)} {ν : Nat → Nat → Option Nat} {μ : Nat → Nat → Int} {f s : Nat} {Q : xQ} (hW : WF sh ν f s) {x1 : Int} {x2 : Int} {x3 : Int} {x4 : Int} {x6 : Int} {y0 : Int} {y1 : Int}
    (h : X mX10_picked 6 [(0, vR 265), (1, vI x1), (2, vI x2), (3, vI x3), (4, vI x4), (5, vI (w32 (y0 + y1))), (6, vI (w32 (x6 + 1)))] [] sh (ν) (μ) 0 0 Q) :
    X mX10_picked 45 [(0, vR 265), (1, vI x1), (2, vI x2), (3, vI x3), (4, vI x4), (6, vI x6)] [vI y1, vI y0] sh ν μ 0 0 Q := by
  refine X.iadd (pc := 45) dX10_picked_45 ?_
  refine X.istore (pc := 46) (i := 5) (ls' := [(5, vI (w32 (y0 + y1))), (0, vR 265), (1, vI x1), (2, vI x2), (3, vI x3), (4, vI x4), (6, vI x6)]) dX10_picked_46 (by decide) rfl ?_
  refine X.iinc (pc := 48) (i := 6) (ls' := [(6, vI (w32 (x6 + 1))), (5, vI (w32 (y0 + y1))), (0, vR 265), (1, vI x1), (2, vI x2), (3, vI x3), (4, vI x4)]) 6 dX10_picked_48 rfl (by decide) rfl ?_
  refine X.goto (pc := 51) (tgt := 6) dX10_picked_51 (by decide) ?_
  exact X.pick [2, 3, 4, 5, 6, 1, 0] rfl h

theorem g_X10_picked_85 {sh : List (Nat × Nat)} {ν : Nat → Nat → Option Nat} {μ : Nat → Nat → Int} {f s : Nat} {Q : xQ} (hW : WF sh ν f s) {x1 : Int} {x3 : Int} {x4 : Int} {x6 : Int} {x7 : Int}
    (h : (0 ≤ x7 ∧ x7 < (40 : Nat)) ∧ ((((μ) 266 (Int.toNat x7)) ≠ x1 → X mX10_picked 113 [(0, vR 265), (1, vI x1), (3, vI x3), (4, vI x4), (6, vI x6), (7, vI x7)] [] sh (ν) (μ) 0 0 Q) ∧ (((μ) 266 (Int.toNat x7)) = x1 → X mX10_lay 0 [(0, vR 265), (1, vI x7), (2, vI x3), (3, vI x4)] [] sh (ν) (μ) 0 0 (fun v sh' ν' μ' => X mX10_picked 105 [(0, vR 265), (1, vI x1), (3, vI x3), (4, vI x4), (6, vI x6), (7, vI x7)] (v.toList ++ []) sh' ν' μ' 0 0 Q)))) :
    X mX10_picked 85 [(0, vR 265), (1, vI x1), (3, vI x3), (4, vI x4), (6, vI x6), (7, vI x7)] [] sh ν μ 0 0 Q := by
  refine X.aload_n (pc := 85) (i := 0) 0 dX10_picked_85 rfl rfl ?_
  refine X.getR (pc := 86) (b := 266) dX10_picked_86 fl_X10_7 rfl (fs_X10 hW) (fp_X10_1 hW) ?_
  refine X.iload (pc := 89) (i := 7) 5 dX10_picked_89 rfl ?_
  obtain ⟨c1, h⟩ := h
  refine X.iaload (pc := 91) dX10_picked_91 (fa_X10_1 hW) c1 ?_
  refine X.iload_n (pc := 92) (i := 1) 1 dX10_picked_92 rfl rfl ?_
  refine X.icmp_ne (pc := 93) 113 dX10_picked_93 (by decide) ⟨fun q9 => ?_, fun q9 => ?_⟩
  · have h := h.1 q9
    exact h
  · have h := h.2 q9
    refine X.aload_n (pc := 96) (i := 0) 0 dX10_picked_96 rfl rfl ?_
    refine X.iload (pc := 97) (i := 7) 5 dX10_picked_97 rfl ?_
    refine X.iload_n (pc := 99) (i := 3) 2 dX10_picked_99 rfl rfl ?_
    refine X.iload (pc := 100) (i := 4) 3 dX10_picked_100 rfl ?_
    exact X.callV (pc := 102) (vs := [vI x7, vI x3, vI x4]) (st := []) dX10_picked_102 rfl okM_X10_lay rfl lk_X10_186 inst_X10_lay sel_X10_lay (fs_X10 hW) rfl ⟨⟨by decide, by decide⟩, ⟨by decide, by decide⟩, Nat.le_of_ble_eq_true rfl⟩ (Nat.le_of_ble_eq_true rfl) h

theorem g_X10_picked_105 {sh : List (Nat × Nat)} {ν : Nat → Nat → Option Nat} {μ : Nat → Nat → Int} {f s : Nat} {Q : xQ} (hW : WF sh ν f s) {x1 : Int} {x3 : Int} {x4 : Int} {x6 : Int} {x7 : Int} {y0 : Int}
    (h : ((y0 = 0 → X mX10_picked 113 [(0, vR 265), (1, vI x1), (3, vI x3), (4, vI x4), (6, vI x6), (7, vI x7)] [] sh (ν) (μ) 0 0 Q) ∧ (y0 ≠ 0 → ((x6 ≤ 0 → Q (some (vI x7)) sh (ν) (μ)) ∧ (0 < x6 → X mX10_picked 113 [(0, vR 265), (1, vI x1), (3, vI x3), (4, vI x4), (6, vI x6), (7, vI x7)] [] sh (ν) (μ) 0 0 Q))))) :
    X mX10_picked 105 [(0, vR 265), (1, vI x1), (3, vI x3), (4, vI x4), (6, vI x6), (7, vI x7)] [vI y0] sh ν μ 0 0 Q := by
  refine X.if_eq (pc := 105) 113 dX10_picked_105 (by decide) ⟨fun q9 => ?_, fun q9 => ?_⟩
  · have h := h.1 q9
    exact h
  · have h := h.2 q9
    refine X.iload (pc := 108) (i := 6) 4 dX10_picked_108 rfl ?_
    refine X.if_le (pc := 110) 152 dX10_picked_110 (by decide) ⟨fun q9 => ?_, fun q9 => ?_⟩
    · have h := h.1 q9
      refine X.iload (pc := 152) (i := 7) 5 dX10_picked_152 rfl ?_
      exact X.iret (pc := 154) dX10_picked_154 rfl (Nat.le_of_ble_eq_true rfl) (Nat.le_of_ble_eq_true rfl) h
    · have h := h.2 q9
      exact h

theorem g_X10_picked_113 {sh : List (Nat × Nat)} {ν : Nat → Nat → Option Nat} {μ : Nat → Nat → Int} {f s : Nat} {Q : xQ} (hW : WF sh ν f s) {x1 : Int} {x3 : Int} {x4 : Int} {x6 : Int} {x7 : Int}
    (h : (0 ≤ x7 ∧ x7 < (40 : Nat)) ∧ ((((μ) 266 (Int.toNat x7)) ≠ x1 → X mX10_picked 142 [(0, vR 265), (1, vI x1), (3, vI x3), (4, vI x4), (7, vI x7)] [vI x6] sh (ν) (μ) 0 0 Q) ∧ (((μ) 266 (Int.toNat x7)) = x1 → X mX10_lay 0 [(0, vR 265), (1, vI x7), (2, vI x3), (3, vI x4)] [] sh (ν) (μ) 0 0 (fun v sh' ν' μ' => X mX10_picked 135 [(0, vR 265), (1, vI x1), (3, vI x3), (4, vI x4), (7, vI x7)] (v.toList ++ [vI x6]) sh' ν' μ' 0 0 Q)))) :
    X mX10_picked 113 [(0, vR 265), (1, vI x1), (3, vI x3), (4, vI x4), (6, vI x6), (7, vI x7)] [] sh ν μ 0 0 Q := by
  refine X.iload (pc := 113) (i := 6) 4 dX10_picked_113 rfl ?_
  refine X.aload_n (pc := 115) (i := 0) 0 dX10_picked_115 rfl rfl ?_
  refine X.getR (pc := 116) (b := 266) dX10_picked_116 fl_X10_7 rfl (fs_X10 hW) (fp_X10_1 hW) ?_
  refine X.iload (pc := 119) (i := 7) 5 dX10_picked_119 rfl ?_
  obtain ⟨c1, h⟩ := h
  refine X.iaload (pc := 121) dX10_picked_121 (fa_X10_1 hW) c1 ?_
  refine X.iload_n (pc := 122) (i := 1) 1 dX10_picked_122 rfl rfl ?_
  refine X.icmp_ne (pc := 123) 142 dX10_picked_123 (by decide) ⟨fun q9 => ?_, fun q9 => ?_⟩
  · have h := h.1 q9
    exact X.pick [0, 1, 2, 3, 5] rfl h
  · have h := h.2 q9
    refine X.aload_n (pc := 126) (i := 0) 0 dX10_picked_126 rfl rfl ?_
    refine X.iload (pc := 127) (i := 7) 5 dX10_picked_127 rfl ?_
    refine X.iload_n (pc := 129) (i := 3) 2 dX10_picked_129 rfl rfl ?_
    refine X.iload (pc := 130) (i := 4) 3 dX10_picked_130 rfl ?_
    refine X.pick [0, 1, 2, 3, 5] rfl ?_
    exact X.callV (pc := 132) (vs := [vI x7, vI x3, vI x4]) (st := [vI x6]) dX10_picked_132 rfl okM_X10_lay rfl lk_X10_186 inst_X10_lay sel_X10_lay (fs_X10 hW) rfl ⟨⟨by decide, by decide⟩, ⟨by decide, by decide⟩, Nat.le_of_ble_eq_true rfl⟩ (Nat.le_of_ble_eq_true rfl) h

theorem g_X10_picked_135 {sh : List (Nat × Nat)} {ν : Nat → Nat → Option Nat} {μ : Nat → Nat → Int} {f s : Nat} {Q : xQ} (hW : WF sh ν f s) {x1 : Int} {x3 : Int} {x4 : Int} {x7 : Int} {y0 : Int} {y1 : Int}
    (h : ((y1 = 0 → X mX10_picked 142 [(0, vR 265), (1, vI x1), (3, vI x3), (4, vI x4), (7, vI x7)] [vI y0] sh (ν) (μ) 0 0 Q) ∧ (y1 ≠ 0 → X mX10_picked 143 [(0, vR 265), (1, vI x1), (3, vI x3), (4, vI x4), (7, vI x7)] [vI 1, vI y0] sh (ν) (μ) 0 0 Q))) :
    X mX10_picked 135 [(0, vR 265), (1, vI x1), (3, vI x3), (4, vI x4), (7, vI x7)] [vI y1, vI y0] sh ν μ 0 0 Q := by
  refine X.if_eq (pc := 135) 142 dX10_picked_135 (by decide) ⟨fun q9 => ?_, fun q9 => ?_⟩
  · have h := h.1 q9
    exact h
  · have h := h.2 q9
    refine X.iconst (pc := 138) dX10_picked_138 ⟨by decide, by decide⟩ ?_
    refine X.goto (pc := 139) (tgt := 143) dX10_picked_139 (by decide) ?_
    exact h

theorem g_X10_picked_142 {sh : List (Nat × Nat)} {ν : Nat → Nat → Option Nat} {μ : Nat → Nat → Int} {f s : Nat} {Q : xQ} (hW : WF sh ν f s) {x1 : Int} {x3 : Int} {x4 : Int} {x7 : Int} {y0 : Int}
    (h : X mX10_picked 143 [(0, vR 265), (1, vI x1), (3, vI x3), (4, vI x4), (7, vI x7)] [vI 0, vI y0] sh (ν) (μ) 0 0 Q) :
    X mX10_picked 142 [(0, vR 265), (1, vI x1), (3, vI x3), (4, vI x4), (7, vI x7)] [vI y0] sh ν μ 0 0 Q := by
  refine X.iconst (pc := 142) dX10_picked_142 ⟨by decide, by decide⟩ ?_
  exact h

theorem g_X10_picked_143 {sh : List (Nat × Nat)} {ν : Nat → Nat → Option Nat} {μ : Nat → Nat → Int} {f s : Nat} {Q : xQ} (hW : WF sh ν f s) {x1 : Int} {x3 : Int} {x4 : Int} {x7 : Int} {y0 : Int} {y1 : Int}
    (h : X mX10_picked 85 [(0, vR 265), (1, vI x1), (3, vI x3), (4, vI x4), (6, vI (w32 (y0 - y1))), (7, vI (w32 (x7 + 1)))] [] sh (ν) (μ) 0 0 Q) :
    X mX10_picked 143 [(0, vR 265), (1, vI x1), (3, vI x3), (4, vI x4), (7, vI x7)] [vI y1, vI y0] sh ν μ 0 0 Q := by
  refine X.isub (pc := 143) dX10_picked_143 ?_
  refine X.istore (pc := 144) (i := 6) (ls' := [(6, vI (w32 (y0 - y1))), (0, vR 265), (1, vI x1), (3, vI x3), (4, vI x4), (7, vI x7)]) dX10_picked_144 (by decide) rfl ?_
  refine X.iinc (pc := 146) (i := 7) (ls' := [(7, vI (w32 (x7 + 1))), (6, vI (w32 (y0 - y1))), (0, vR 265), (1, vI x1), (3, vI x3), (4, vI x4)]) 5 dX10_picked_146 rfl (by decide) rfl ?_
  refine X.goto (pc := 149) (tgt := 85) dX10_picked_149 (by decide) ?_
  exact X.pick [2, 3, 4, 5, 1, 0] rfl h

theorem g_X10_putPieces_0 {sh : List (Nat × Nat)} {ν : Nat → Nat → Option Nat} {μ : Nat → Nat → Int} {f s : Nat} {Q : xQ} (hW : WF sh ν f s) {x1 : Int} {x2 : Int} {x3 : Int} {x4 : Int} {x5 : Int} {x6 : Int} {x7 : Int}
    (h : (0 ≤ x1 ∧ x1 < (40 : Nat)) ∧ X mX10_putPieces 15 [(0, vR 265), (2, vI x2), (3, vI x3), (4, vI x4), (5, vI x5), (6, vI x6), (7, vI x7), (8, vI (bI ((μ) 267 (Int.toNat x1) = 2 ∨ (μ) 267 (Int.toNat x1) = 4))), (9, vI (w32 (((μ) 265 14) - 1)))] [] sh (ν) (μ) 0 0 Q) :
    X mX10_putPieces 0 [(0, vR 265), (1, vI x1), (2, vI x2), (3, vI x3), (4, vI x4), (5, vI x5), (6, vI x6), (7, vI x7)] [] sh ν μ 0 0 Q := by
  refine X.aload_n (pc := 0) (i := 0) 0 dX10_putPieces_0 rfl rfl ?_
  refine X.iload_n (pc := 1) (i := 1) 1 dX10_putPieces_1 rfl rfl ?_
  refine X.pick [0, 2, 3, 4, 5, 6, 7] rfl ?_
  obtain ⟨c1, h⟩ := h
  refine X.callV (pc := 2) (vs := [vI x1]) (st := []) dX10_putPieces_2 rfl okM_X10_isAlongY rfl lk_X10_176 inst_X10_isAlongY sel_X10_isAlongY (fs_X10 hW) rfl ⟨⟨by decide, by decide⟩, ⟨by decide, by decide⟩, Nat.le_of_ble_eq_true rfl⟩ (Nat.le_of_ble_eq_true rfl) (c_X10_isAlongY hW c1 ?_)
  refine X.nrm (pc' := 5) (ls' := [(0, vR 265), (2, vI x2), (3, vI x3), (4, vI x4), (5, vI x5), (6, vI x6), (7, vI x7)]) (st' := [vI (bI ((μ) 267 (Int.toNat x1) = 2 ∨ (μ) 267 (Int.toNat x1) = 4))]) (k' := 0) (n' := 0) rfl rfl rfl rfl rfl ?_
  refine X.istore (pc := 5) (i := 8) (ls' := [(8, vI (bI ((μ) 267 (Int.toNat x1) = 2 ∨ (μ) 267 (Int.toNat x1) = 4))), (0, vR 265), (2, vI x2), (3, vI x3), (4, vI x4), (5, vI x5), (6, vI x6), (7, vI x7)]) dX10_putPieces_5 (by decide) rfl ?_
  refine X.aload_n (pc := 7) (i := 0) 1 dX10_putPieces_7 rfl rfl ?_
  refine X.getI (pc := 8) dX10_putPieces_8 fl_X10_173 rfl (fs_X10 hW) ?_
  refine X.iconst (pc := 11) dX10_putPieces_11 ⟨by decide, by decide⟩ ?_
  refine X.isub (pc := 12) dX10_putPieces_12 ?_
  refine X.istore (pc := 13) (i := 9) (ls' := [(9, vI (w32 (((μ) 265 14) - 1))), (8, vI (bI ((μ) 267 (Int.toNat x1) = 2 ∨ (μ) 267 (Int.toNat x1) = 4))), (0, vR 265), (2, vI x2), (3, vI x3), (4, vI x4), (5, vI x5), (6, vI x6), (7, vI x7)]) dX10_putPieces_13 (by decide) rfl ?_
  exact X.pick [2, 3, 4, 5, 6, 7, 8, 1, 0] rfl h

theorem g_X10_putPieces_15 {sh : List (Nat × Nat)} {ν : Nat → Nat → Option Nat} {μ : Nat → Nat → Int} {f s : Nat} {Q : xQ} (hW : WF sh ν f s) {x2 : Int} {x3 : Int} {x4 : Int} {x5 : Int} {x6 : Int} {x7 : Int} {x8 : Int} {x9 : Int}
    (h : ((x9 < 0 → Q none sh (ν) (μ)) ∧ (0 ≤ x9 → (0 ≤ x9 ∧ x9 < (20 : Nat)) ∧ ((x8 = 0 → (0 ≤ x9 ∧ x9 < (20 : Nat)) ∧ X mX10_putPieces 60 [(0, vR 265), (2, vI x2), (3, vI x3), (4, vI x4), (5, vI x5), (6, vI x6), (7, vI x7), (8, vI x8), (9, vI x9)] [vI (w32 (x4 + ((μ) 278 (Int.toNat x9)))), vI (w32 (x3 + 1)), vI (w32 ((w32 ((w32 (31 * x2)) + x9)) + 1)), vI ((μ) 280 (Int.toNat x9)), vR 265] sh (ν) (μ) 0 0 Q) ∧ (x8 ≠ 0 → X mX10_putPieces 60 [(0, vR 265), (2, vI x2), (3, vI x3), (4, vI x4), (5, vI x5), (6, vI x6), (7, vI x7), (8, vI x8), (9, vI x9)] [vI x4, vI (w32 (x3 + 1)), vI (w32 ((w32 ((w32 (31 * x2)) + x9)) + 1)), vI ((μ) 280 (Int.toNat x9)), vR 265] sh (ν) (μ) 0 0 Q))))) :
    X mX10_putPieces 15 [(0, vR 265), (2, vI x2), (3, vI x3), (4, vI x4), (5, vI x5), (6, vI x6), (7, vI x7), (8, vI x8), (9, vI x9)] [] sh ν μ 0 0 Q := by
  refine X.iload (pc := 15) (i := 9) 8 dX10_putPieces_15 rfl ?_
  refine X.if_lt (pc := 17) 151 dX10_putPieces_17 (by decide) ⟨fun q9 => ?_, fun q9 => ?_⟩
  · have h := h.1 q9
    exact X.vret (pc := 151) dX10_putPieces_151 rfl (Nat.le_of_ble_eq_true rfl) (Nat.le_of_ble_eq_true rfl) h
  · have h := h.2 q9
    refine X.aload_n (pc := 20) (i := 0) 0 dX10_putPieces_20 rfl rfl ?_
    refine X.aload_n (pc := 21) (i := 0) 0 dX10_putPieces_21 rfl rfl ?_
    refine X.getR (pc := 22) (b := 280) dX10_putPieces_22 fl_X10_53 rfl (fs_X10 hW) (fp_X10_17 hW) ?_
    refine X.iload (pc := 25) (i := 9) 8 dX10_putPieces_25 rfl ?_
    obtain ⟨c1, h⟩ := h
    refine X.iaload (pc := 27) dX10_putPieces_27 (fa_X10_17 hW) c1 ?_
    refine X.bipush (pc := 28) (y := 31) dX10_putPieces_28 rfl ⟨by decide, by decide⟩ ?_
    refine X.iload_n (pc := 30) (i := 2) 1 dX10_putPieces_30 rfl rfl ?_
    refine X.imul (pc := 31) dX10_putPieces_31 ?_
    refine X.iload (pc := 32) (i := 9) 8 dX10_putPieces_32 rfl ?_
    refine X.iadd (pc := 34) dX10_putPieces_34 ?_
    refine X.iconst (pc := 35) dX10_putPieces_35 ⟨by decide, by decide⟩ ?_
    refine X.iadd (pc := 36) dX10_putPieces_36 ?_
    refine X.iload_n (pc := 37) (i := 3) 2 dX10_putPieces_37 rfl rfl ?_
    refine X.iconst (pc := 38) dX10_putPieces_38 ⟨by decide, by decide⟩ ?_
    refine X.iadd (pc := 39) dX10_putPieces_39 ?_
    refine X.iload (pc := 40) (i := 8) 7 dX10_putPieces_40 rfl ?_
    refine X.if_eq (pc := 42) 50 dX10_putPieces_42 (by decide) ⟨fun q9 => ?_, fun q9 => ?_⟩
    · have h := h.1 q9
      refine X.iload (pc := 50) (i := 4) 3 dX10_putPieces_50 rfl ?_
      refine X.aload_n (pc := 52) (i := 0) 0 dX10_putPieces_52 rfl rfl ?_
      refine X.getR (pc := 53) (b := 278) dX10_putPieces_53 fl_X10_47 rfl (fs_X10 hW) (fp_X10_15 hW) ?_
      refine X.iload (pc := 56) (i := 9) 8 dX10_putPieces_56 rfl ?_
      obtain ⟨c2, h⟩ := h
      refine X.iaload (pc := 58) dX10_putPieces_58 (fa_X10_15 hW) c2 ?_
      refine X.iadd (pc := 59) dX10_putPieces_59 ?_
      exact h
    · have h := h.2 q9
      refine X.iload (pc := 45) (i := 4) 3 dX10_putPieces_45 rfl ?_
      refine X.goto (pc := 47) (tgt := 60) dX10_putPieces_47 (by decide) ?_
      exact h

theorem g_X10_putPieces_60 {sh : List (Nat × Nat)} {ν : Nat → Nat → Option Nat} {μ : Nat → Nat → Int} {f s : Nat} {Q : xQ} (hW : WF sh ν f s) {x2 : Int} {x3 : Int} {x4 : Int} {x5 : Int} {x6 : Int} {x7 : Int} {x8 : Int} {x9 : Int} {y1 : Int} {y2 : Int} {y3 : Int} {y4 : Int}
    (h : ((x8 = 0 → X mX10_putPieces 80 [(0, vR 265), (2, vI x2), (3, vI x3), (4, vI x4), (5, vI x5), (6, vI x6), (7, vI x7), (8, vI x8), (9, vI x9)] [vI x5, vI y4, vI y3, vI y2, vI y1, vR 265] sh (ν) (μ) 0 0 Q) ∧ (x8 ≠ 0 → (0 ≤ x9 ∧ x9 < (20 : Nat)) ∧ X mX10_putPieces 80 [(0, vR 265), (2, vI x2), (3, vI x3), (4, vI x4), (5, vI x5), (6, vI x6), (7, vI x7), (8, vI x8), (9, vI x9)] [vI (w32 (x5 + ((μ) 278 (Int.toNat x9)))), vI y4, vI y3, vI y2, vI y1, vR 265] sh (ν) (μ) 0 0 Q))) :
    X mX10_putPieces 60 [(0, vR 265), (2, vI x2), (3, vI x3), (4, vI x4), (5, vI x5), (6, vI x6), (7, vI x7), (8, vI x8), (9, vI x9)] [vI y4, vI y3, vI y2, vI y1, vR 265] sh ν μ 0 0 Q := by
  refine X.iload (pc := 60) (i := 8) 7 dX10_putPieces_60 rfl ?_
  refine X.if_eq (pc := 62) 78 dX10_putPieces_62 (by decide) ⟨fun q9 => ?_, fun q9 => ?_⟩
  · have h := h.1 q9
    refine X.iload (pc := 78) (i := 5) 4 dX10_putPieces_78 rfl ?_
    exact h
  · have h := h.2 q9
    refine X.iload (pc := 65) (i := 5) 4 dX10_putPieces_65 rfl ?_
    refine X.aload_n (pc := 67) (i := 0) 0 dX10_putPieces_67 rfl rfl ?_
    refine X.getR (pc := 68) (b := 278) dX10_putPieces_68 fl_X10_47 rfl (fs_X10 hW) (fp_X10_15 hW) ?_
    refine X.iload (pc := 71) (i := 9) 8 dX10_putPieces_71 rfl ?_
    obtain ⟨c1, h⟩ := h
    refine X.iaload (pc := 73) dX10_putPieces_73 (fa_X10_15 hW) c1 ?_
    refine X.iadd (pc := 74) dX10_putPieces_74 ?_
    refine X.goto (pc := 75) (tgt := 80) dX10_putPieces_75 (by decide) ?_
    exact h

theorem g_X10_putPieces_80 {sh : List (Nat × Nat)} {ν : Nat → Nat → Option Nat} {μ : Nat → Nat → Int} {f s : Nat} {Q : xQ} (hW : WF sh ν f s) {x2 : Int} {x3 : Int} {x4 : Int} {x5 : Int} {x6 : Int} {x7 : Int} {x8 : Int} {x9 : Int} {y1 : Int} {y2 : Int} {y3 : Int} {y4 : Int} {y5 : Int}
    (h : X mX10_put 0 [(0, vR 265), (1, vI y1), (2, vI y2), (3, vI y3), (4, vI y4), (5, vI y5)] [] sh (ν) (μ) 0 0 (fun v sh' ν' μ' => X mX10_putPieces 83 [(0, vR 265), (2, vI x2), (3, vI x3), (4, vI x4), (5, vI x5), (6, vI x6), (7, vI x7), (8, vI x8), (9, vI x9)] (v.toList ++ []) sh' ν' μ' 0 0 Q)) :
    X mX10_putPieces 80 [(0, vR 265), (2, vI x2), (3, vI x3), (4, vI x4), (5, vI x5), (6, vI x6), (7, vI x7), (8, vI x8), (9, vI x9)] [vI y5, vI y4, vI y3, vI y2, vI y1, vR 265] sh ν μ 0 0 Q := by
  exact X.callV (pc := 80) (vs := [vI y1, vI y2, vI y3, vI y4, vI y5]) (st := []) dX10_putPieces_80 rfl okM_X10_put rfl lk_X10_194 inst_X10_put sel_X10_put (fs_X10 hW) rfl ⟨⟨by decide, by decide⟩, ⟨by decide, by decide⟩, Nat.le_of_ble_eq_true rfl⟩ (Nat.le_of_ble_eq_true rfl) h

theorem g_X10_putPieces_83 {sh : List (Nat × Nat)} {ν : Nat → Nat → Option Nat} {μ : Nat → Nat → Int} {f s : Nat} {Q : xQ} (hW : WF sh ν f s) {x2 : Int} {x3 : Int} {x4 : Int} {x5 : Int} {x6 : Int} {x7 : Int} {x8 : Int} {x9 : Int}
    (h : ((x8 = 0 → (0 ≤ x9 ∧ x9 < (20 : Nat)) ∧ X mX10_putPieces 108 [(0, vR 265), (2, vI x2), (3, vI x3), (4, vI x4), (5, vI x5), (6, vI x6), (7, vI x7), (8, vI x8), (9, vI x9)] [vI ((μ) 279 (Int.toNat x9)), vI ((μ) 265 27), vR 290] sh (ν) (μ) 0 0 Q) ∧ (x8 ≠ 0 → X mX10_putPieces 108 [(0, vR 265), (2, vI x2), (3, vI x3), (4, vI x4), (5, vI x5), (6, vI x6), (7, vI x7), (8, vI x8), (9, vI x9)] [vI x6, vI ((μ) 265 27), vR 290] sh (ν) (μ) 0 0 Q))) :
    X mX10_putPieces 83 [(0, vR 265), (2, vI x2), (3, vI x3), (4, vI x4), (5, vI x5), (6, vI x6), (7, vI x7), (8, vI x8), (9, vI x9)] [] sh ν μ 0 0 Q := by
  refine X.aload_n (pc := 83) (i := 0) 0 dX10_putPieces_83 rfl rfl ?_
  refine X.getR (pc := 84) (b := 290) dX10_putPieces_84 fl_X10_83 rfl (fs_X10 hW) (fp_X10_33 hW) ?_
  refine X.aload_n (pc := 87) (i := 0) 0 dX10_putPieces_87 rfl rfl ?_
  refine X.getI (pc := 88) dX10_putPieces_88 fl_X10_190 rfl (fs_X10 hW) ?_
  refine X.iload (pc := 91) (i := 8) 7 dX10_putPieces_91 rfl ?_
  refine X.if_eq (pc := 93) 101 dX10_putPieces_93 (by decide) ⟨fun q9 => ?_, fun q9 => ?_⟩
  · have h := h.1 q9
    refine X.aload_n (pc := 101) (i := 0) 0 dX10_putPieces_101 rfl rfl ?_
    refine X.getR (pc := 102) (b := 279) dX10_putPieces_102 fl_X10_50 rfl (fs_X10 hW) (fp_X10_16 hW) ?_
    refine X.iload (pc := 105) (i := 9) 8 dX10_putPieces_105 rfl ?_
    obtain ⟨c1, h⟩ := h
    refine X.iaload (pc := 107) dX10_putPieces_107 (fa_X10_16 hW) c1 ?_
    exact h
  · have h := h.2 q9
    refine X.iload (pc := 96) (i := 6) 5 dX10_putPieces_96 rfl ?_
    refine X.goto (pc := 98) (tgt := 108) dX10_putPieces_98 (by decide) ?_
    exact h

theorem g_X10_putPieces_108 {sh : List (Nat × Nat)} {ν : Nat → Nat → Option Nat} {μ : Nat → Nat → Int} {f s : Nat} {Q : xQ} (hW : WF sh ν f s) {x2 : Int} {x3 : Int} {x4 : Int} {x5 : Int} {x6 : Int} {x7 : Int} {x8 : Int} {x9 : Int} {q0 nq0 : Nat} (hq0 : sh[q0]? = some (0, nq0)) {y1 : Int} {y2 : Int}
    (h : (0 ≤ y1 ∧ y1 < (nq0 : Nat)) ∧ ((x8 = 0 → X mX10_putPieces 134 [(0, vR 265), (2, vI x2), (3, vI x3), (4, vI x4), (5, vI x5), (6, vI x6), (7, vI x7), (8, vI x8), (9, vI x9)] [vI x7, vI ((up μ q0 (Int.toNat y1) y2) 265 27), vR 291] sh (ν) (up μ q0 (Int.toNat y1) y2) 0 0 Q) ∧ (x8 ≠ 0 → (0 ≤ x9 ∧ x9 < (20 : Nat)) ∧ X mX10_putPieces 134 [(0, vR 265), (2, vI x2), (3, vI x3), (4, vI x4), (5, vI x5), (6, vI x6), (7, vI x7), (8, vI x8), (9, vI x9)] [vI ((up μ q0 (Int.toNat y1) y2) 279 (Int.toNat x9)), vI ((up μ q0 (Int.toNat y1) y2) 265 27), vR 291] sh (ν) (up μ q0 (Int.toNat y1) y2) 0 0 Q))) :
    X mX10_putPieces 108 [(0, vR 265), (2, vI x2), (3, vI x3), (4, vI x4), (5, vI x5), (6, vI x6), (7, vI x7), (8, vI x8), (9, vI x9)] [vI y2, vI y1, vR q0] sh ν μ 0 0 Q := by
  obtain ⟨c1, h⟩ := h
  refine X.iastore (pc := 108) dX10_putPieces_108 hq0 c1 ?_
  refine X.aload_n (pc := 109) (i := 0) 0 dX10_putPieces_109 rfl rfl ?_
  refine X.getR (pc := 110) (b := 291) dX10_putPieces_110 fl_X10_86 rfl (fs_X10 hW) (fp_X10_34 hW) ?_
  refine X.aload_n (pc := 113) (i := 0) 0 dX10_putPieces_113 rfl rfl ?_
  refine X.getI (pc := 114) dX10_putPieces_114 fl_X10_190 rfl (fs_X10 hW) ?_
  refine X.iload (pc := 117) (i := 8) 7 dX10_putPieces_117 rfl ?_
  refine X.if_eq (pc := 119) 132 dX10_putPieces_119 (by decide) ⟨fun q9 => ?_, fun q9 => ?_⟩
  · have h := h.1 q9
    refine X.iload (pc := 132) (i := 7) 6 dX10_putPieces_132 rfl ?_
    exact h
  · have h := h.2 q9
    refine X.aload_n (pc := 122) (i := 0) 0 dX10_putPieces_122 rfl rfl ?_
    refine X.getR (pc := 123) (b := 279) dX10_putPieces_123 fl_X10_50 rfl (fs_X10 hW) (fp_X10_16 hW) ?_
    refine X.iload (pc := 126) (i := 9) 8 dX10_putPieces_126 rfl ?_
    obtain ⟨c2, h⟩ := h
    refine X.iaload (pc := 128) dX10_putPieces_128 (fa_X10_16 hW) c2 ?_
    refine X.goto (pc := 129) (tgt := 134) dX10_putPieces_129 (by decide) ?_
    exact h

theorem g_X10_putPieces_134 {sh : List (Nat × Nat)} {ν : Nat → Nat → Option Nat} {μ : Nat → Nat → Int} {f s : Nat} {Q : xQ} (hW : WF sh ν f s) {x2 : Int} {x3 : Int} {x4 : Int} {x5 : Int} {x6 : Int} {x7 : Int} {x8 : Int} {x9 : Int} {q0 nq0 : Nat} (hq0 : sh[q0]? = some (0, nq0)) {y1 : Int} {y2 : Int}
    (h : (0 ≤ y1 ∧ y1 < (nq0 : Nat)) ∧ X mX10_putPieces 15 [(0, vR 265), (2, vI x2), (3, vI x3), (4, vI x4), (5, vI x5), (6, vI x6), (7, vI x7), (8, vI x8), (9, vI (w32 (x9 + (-1))))] [] sh (ν) (up (up μ q0 (Int.toNat y1) y2) 265 27 (w32 (((up μ q0 (Int.toNat y1) y2) 265 27) + 1))) 0 0 Q) :
    X mX10_putPieces 134 [(0, vR 265), (2, vI x2), (3, vI x3), (4, vI x4), (5, vI x5), (6, vI x6), (7, vI x7), (8, vI x8), (9, vI x9)] [vI y2, vI y1, vR q0] sh ν μ 0 0 Q := by
  obtain ⟨c1, h⟩ := h
  refine X.iastore (pc := 134) dX10_putPieces_134 hq0 c1 ?_
  refine X.aload_n (pc := 135) (i := 0) 0 dX10_putPieces_135 rfl rfl ?_
  refine X.dup (pc := 136) dX10_putPieces_136 rfl ?_
  refine X.getI (pc := 137) dX10_putPieces_137 fl_X10_190 rfl (fs_X10 hW) ?_
  refine X.iconst (pc := 140) dX10_putPieces_140 ⟨by decide, by decide⟩ ?_
  refine X.iadd (pc := 141) dX10_putPieces_141 ?_
  refine X.putI (pc := 142) dX10_putPieces_142 fl_X10_190 rfl (fun h9 => by cases h9) (fs_X10 hW) (Or.inl rfl) ?_
  refine X.iinc (pc := 145) (i := 9) (ls' := [(9, vI (w32 (x9 + (-1)))), (0, vR 265), (2, vI x2), (3, vI x3), (4, vI x4), (5, vI x5), (6, vI x6), (7, vI x7), (8, vI x8)]) 8 dX10_putPieces_145 rfl (by decide) rfl ?_
  refine X.goto (pc := 148) (tgt := 15) dX10_putPieces_148 (by decide) ?_
  exact X.pick [1, 2, 3, 4, 5, 6, 7, 8, 0] rfl h

theorem g_X10_draw_0 {sh : List (Nat × Nat)} {ν : Nat → Nat → Option Nat} {μ : Nat → Nat → Int} {f s : Nat} {Q : xQ} (hW : WF sh ν f s) {x1 : Int} {x2 : Int} {x3 : Int}
    (h : ((¬ (1 ≤ x2 ∧ x2 ≤ 20) → Q (some (vI (-2))) sh (ν) (μ)) ∧ ((1 ≤ x2 ∧ x2 ≤ 20) → (((1 ≤ x3 ∧ x3 ≤ 20) → X mX10_put 0 [(0, vR 265), (1, vI 0), (2, vI x1), (3, vI 0), (4, vI 0), (5, vI 0)] [] sh (ν) (up μ 265 27 0) 0 0 (fun v sh' ν' μ' => X mX10_draw 31 [(0, vR 265), (2, vI x2), (3, vI x3)] (v.toList ++ []) sh' ν' μ' 0 0 Q)) ∧ (¬ (1 ≤ x3 ∧ x3 ≤ 20) → Q (some (vI (-2))) sh (ν) (μ)))))) :
    X mX10_draw 0 [(0, vR 265), (1, vI x1), (2, vI x2), (3, vI x3)] [] sh ν μ 0 0 Q := by
  refine X.iload_n (pc := 0) (i := 2) 2 dX10_draw_0 rfl rfl ?_
  refine X.callS (pc := 1) (vs := [vI x2]) (st := []) dX10_draw_1 rfl okM_X10_isLength rfl lk_X10_161 stat_X10_isLength ⟨⟨by decide, by decide⟩, ⟨by decide, by decide⟩, Nat.le_of_ble_eq_true rfl⟩ (Nat.le_of_ble_eq_true rfl) (c_X10_isLength hW ?_)
  refine X.nrm (pc' := 4) (ls' := [(0, vR 265), (1, vI x1), (2, vI x2), (3, vI x3)]) (st' := [vI (bI (1 ≤ x2 ∧ x2 ≤ 20))]) (k' := 0) (n' := 0) rfl rfl rfl rfl rfl ?_
  refine X.if_eq (pc := 4) 14 dX10_draw_4 (by decide) ⟨fun q9 => ?_, fun q9 => ?_⟩
  · have h := h.1 (bI_eq.mp q9)
    refine X.bipush (pc := 14) (y := -2) dX10_draw_14 rfl ⟨by decide, by decide⟩ ?_
    exact X.iret (pc := 16) dX10_draw_16 rfl (Nat.le_of_ble_eq_true rfl) (Nat.le_of_ble_eq_true rfl) h
  · have h := h.2 (bI_ne.mp q9)
    refine X.iload_n (pc := 7) (i := 3) 3 dX10_draw_7 rfl rfl ?_
    refine X.callS (pc := 8) (vs := [vI x3]) (st := []) dX10_draw_8 rfl okM_X10_isLength rfl lk_X10_161 stat_X10_isLength ⟨⟨by decide, by decide⟩, ⟨by decide, by decide⟩, Nat.le_of_ble_eq_true rfl⟩ (Nat.le_of_ble_eq_true rfl) (c_X10_isLength hW ?_)
    refine X.nrm (pc' := 11) (ls' := [(0, vR 265), (1, vI x1), (2, vI x2), (3, vI x3)]) (st' := [vI (bI (1 ≤ x3 ∧ x3 ≤ 20))]) (k' := 0) (n' := 0) rfl rfl rfl rfl rfl ?_
    refine X.if_ne (pc := 11) 17 dX10_draw_11 (by decide) ⟨fun q9 => ?_, fun q9 => ?_⟩
    · have h := h.1 (bI_ne.mp q9)
      refine X.aload_n (pc := 17) (i := 0) 0 dX10_draw_17 rfl rfl ?_
      refine X.iconst (pc := 18) dX10_draw_18 ⟨by decide, by decide⟩ ?_
      refine X.putI (pc := 19) dX10_draw_19 fl_X10_190 rfl (fun h9 => by cases h9) (fs_X10 hW) (Or.inl rfl) ?_
      refine X.aload_n (pc := 22) (i := 0) 0 dX10_draw_22 rfl rfl ?_
      refine X.iconst (pc := 23) dX10_draw_23 ⟨by decide, by decide⟩ ?_
      refine X.iload_n (pc := 24) (i := 1) 1 dX10_draw_24 rfl rfl ?_
      refine X.iconst (pc := 25) dX10_draw_25 ⟨by decide, by decide⟩ ?_
      refine X.iconst (pc := 26) dX10_draw_26 ⟨by decide, by decide⟩ ?_
      refine X.iconst (pc := 27) dX10_draw_27 ⟨by decide, by decide⟩ ?_
      refine X.pick [0, 2, 3] rfl ?_
      exact X.callV (pc := 28) (vs := [vI 0, vI x1, vI 0, vI 0, vI 0]) (st := []) dX10_draw_28 rfl okM_X10_put rfl lk_X10_194 inst_X10_put sel_X10_put (fs_X10 hW) rfl ⟨⟨by decide, by decide⟩, ⟨by decide, by decide⟩, Nat.le_of_ble_eq_true rfl⟩ (Nat.le_of_ble_eq_true rfl) h
    · have h := h.2 (bI_eq.mp q9)
      refine X.bipush (pc := 14) (y := -2) dX10_draw_14 rfl ⟨by decide, by decide⟩ ?_
      exact X.iret (pc := 16) dX10_draw_16 rfl (Nat.le_of_ble_eq_true rfl) (Nat.le_of_ble_eq_true rfl) h

theorem g_X10_draw_31 {sh : List (Nat × Nat)} {ν : Nat → Nat → Option Nat} {μ : Nat → Nat → Int} {f s : Nat} {Q : xQ} (hW : WF sh ν f s) {x2 : Int} {x3 : Int}
    (h : X mX10_draw 56 [(0, vR 265), (2, vI x2), (3, vI x3), (4, vI 0), (5, vI 0)] [] sh (ν) (up (up (up μ 290 (Int.toNat 0) x2) 291 (Int.toNat 0) x3) 265 27 1) 0 0 Q) :
    X mX10_draw 31 [(0, vR 265), (2, vI x2), (3, vI x3)] [] sh ν μ 0 0 Q := by
  refine X.aload_n (pc := 31) (i := 0) 0 dX10_draw_31 rfl rfl ?_
  refine X.getR (pc := 32) (b := 290) dX10_draw_32 fl_X10_83 rfl (fs_X10 hW) (fp_X10_33 hW) ?_
  refine X.iconst (pc := 35) dX10_draw_35 ⟨by decide, by decide⟩ ?_
  refine X.iload_n (pc := 36) (i := 2) 1 dX10_draw_36 rfl rfl ?_
  refine X.iastore (pc := 37) dX10_draw_37 (fa_X10_33 hW) ⟨by decide, by decide⟩ ?_
  refine X.aload_n (pc := 38) (i := 0) 0 dX10_draw_38 rfl rfl ?_
  refine X.getR (pc := 39) (b := 291) dX10_draw_39 fl_X10_86 rfl (fs_X10 hW) (fp_X10_34 hW) ?_
  refine X.iconst (pc := 42) dX10_draw_42 ⟨by decide, by decide⟩ ?_
  refine X.iload_n (pc := 43) (i := 3) 2 dX10_draw_43 rfl rfl ?_
  refine X.iastore (pc := 44) dX10_draw_44 (fa_X10_34 hW) ⟨by decide, by decide⟩ ?_
  refine X.aload_n (pc := 45) (i := 0) 0 dX10_draw_45 rfl rfl ?_
  refine X.iconst (pc := 46) dX10_draw_46 ⟨by decide, by decide⟩ ?_
  refine X.putI (pc := 47) dX10_draw_47 fl_X10_190 rfl (fun h9 => by cases h9) (fs_X10 hW) (Or.inl rfl) ?_
  refine X.iconst (pc := 50) dX10_draw_50 ⟨by decide, by decide⟩ ?_
  refine X.istore (pc := 51) (i := 4) (ls' := [(4, vI 0), (0, vR 265), (2, vI x2), (3, vI x3)]) dX10_draw_51 (by decide) rfl ?_
  refine X.iconst (pc := 53) dX10_draw_53 ⟨by decide, by decide⟩ ?_
  refine X.istore (pc := 54) (i := 5) (ls' := [(5, vI 0), (4, vI 0), (0, vR 265), (2, vI x2), (3, vI x3)]) dX10_draw_54 (by decide) rfl ?_
  exact X.pick [2, 3, 4, 1, 0] rfl h

theorem g_X10_draw_56 {sh : List (Nat × Nat)} {ν : Nat → Nat → Option Nat} {μ : Nat → Nat → Int} {f s : Nat} {Q : xQ} (hW : WF sh ν f s) {x2 : Int} {x3 : Int} {x4 : Int} {x5 : Int}
    (h : ((((μ) 265 27) ≤ 0 → X mX10_draw 325 [(0, vR 265), (4, vI x4), (6, vI 0)] [] sh (ν) (up (up (up (up (up μ 265 26 0) 265 20 x4) 265 22 x5) 265 18 x2) 265 19 x3) 0 0 Q) ∧ (0 < ((μ) 265 27) → (0 ≤ (w32 (((μ) 265 27) - 1)) ∧ (w32 (((μ) 265 27) - 1)) < (600 : Nat)) ∧ (0 ≤ (w32 (((μ) 265 27) - 1)) ∧ (w32 (((μ) 265 27) - 1)) < (600 : Nat)) ∧ (0 ≤ (w32 (((μ) 265 27) - 1)) ∧ (w32 (((μ) 265 27) - 1)) < (600 : Nat)) ∧ (0 ≤ (w32 (((μ) 265 27) - 1)) ∧ (w32 (((μ) 265 27) - 1)) < (600 : Nat)) ∧ ((((μ) 287 (Int.toNat (w32 (((μ) 265 27) - 1)))) ≤ 19 → (0 ≤ (w32 (((μ) 265 27) - 1)) ∧ (w32 (((μ) 265 27) - 1)) < (600 : Nat)) ∧ X mX10_picked 0 [(0, vR 265), (1, vI ((μ) 285 (Int.toNat (w32 (((μ) 265 27) - 1))))), (2, vI ((μ) 286 (Int.toNat (w32 (((μ) 265 27) - 1))))), (3, vI ((μ) 290 (Int.toNat (w32 (((μ) 265 27) - 1))))), (4, vI ((μ) 291 (Int.toNat (w32 (((μ) 265 27) - 1)))))] [] sh (ν) (up μ 265 27 (w32 (((μ) 265 27) - 1))) 0 0 (fun v sh' ν' μ' => X mX10_draw 148 [(0, vR 265), (2, vI x2), (3, vI x3), (4, vI x4), (5, vI x5), (6, vI ((μ) 286 (Int.toNat (w32 (((μ) 265 27) - 1))))), (7, vI ((μ) 287 (Int.toNat (w32 (((μ) 265 27) - 1))))), (8, vI ((μ) 290 (Int.toNat (w32 (((μ) 265 27) - 1))))), (9, vI ((μ) 291 (Int.toNat (w32 (((μ) 265 27) - 1)))))] (v.toList ++ []) sh' ν' μ' 0 0 Q)) ∧ (19 < ((μ) 287 (Int.toNat (w32 (((μ) 265 27) - 1)))) → X mX10_draw 148 [(0, vR 265), (2, vI x2), (3, vI x3), (4, vI x4), (5, vI x5), (6, vI ((μ) 286 (Int.toNat (w32 (((μ) 265 27) - 1))))), (7, vI ((μ) 287 (Int.toNat (w32 (((μ) 265 27) - 1))))), (8, vI ((μ) 290 (Int.toNat (w32 (((μ) 265 27) - 1))))), (9, vI ((μ) 291 (Int.toNat (w32 (((μ) 265 27) - 1)))))] [vI (-9)] sh (ν) (up μ 265 27 (w32 (((μ) 265 27) - 1))) 0 0 Q))))) :
    X mX10_draw 56 [(0, vR 265), (2, vI x2), (3, vI x3), (4, vI x4), (5, vI x5)] [] sh ν μ 0 0 Q := by
  refine X.aload_n (pc := 56) (i := 0) 0 dX10_draw_56 rfl rfl ?_
  refine X.getI (pc := 57) dX10_draw_57 fl_X10_190 rfl (fs_X10 hW) ?_
  refine X.if_le (pc := 60) 295 dX10_draw_60 (by decide) ⟨fun q9 => ?_, fun q9 => ?_⟩
  · have h := h.1 q9
    refine X.aload_n (pc := 295) (i := 0) 0 dX10_draw_295 rfl rfl ?_
    refine X.iconst (pc := 296) dX10_draw_296 ⟨by decide, by decide⟩ ?_
    refine X.putI (pc := 297) dX10_draw_297 fl_X10_201 rfl (fun h9 => by cases h9) (fs_X10 hW) (Or.inl rfl) ?_
    refine X.aload_n (pc := 300) (i := 0) 0 dX10_draw_300 rfl rfl ?_
    refine X.iload (pc := 301) (i := 4) 3 dX10_draw_301 rfl ?_
    refine X.putI (pc := 303) dX10_draw_303 fl_X10_170 rfl (fun h9 => by cases h9) (fs_X10 hW) (Or.inl rfl) ?_
    refine X.aload_n (pc := 306) (i := 0) 0 dX10_draw_306 rfl rfl ?_
    refine X.iload (pc := 307) (i := 5) 4 dX10_draw_307 rfl ?_
    refine X.putI (pc := 309) dX10_draw_309 fl_X10_211 rfl (fun h9 => by cases h9) (fs_X10 hW) (Or.inl rfl) ?_
    refine X.aload_n (pc := 312) (i := 0) 0 dX10_draw_312 rfl rfl ?_
    refine X.iload_n (pc := 313) (i := 2) 1 dX10_draw_313 rfl rfl ?_
    refine X.putI (pc := 314) dX10_draw_314 fl_X10_164 rfl (fun h9 => by cases h9) (fs_X10 hW) (Or.inl rfl) ?_
    refine X.aload_n (pc := 317) (i := 0) 0 dX10_draw_317 rfl rfl ?_
    refine X.iload_n (pc := 318) (i := 3) 2 dX10_draw_318 rfl rfl ?_
    refine X.putI (pc := 319) dX10_draw_319 fl_X10_167 rfl (fun h9 => by cases h9) (fs_X10 hW) (Or.inl rfl) ?_
    refine X.iconst (pc := 322) dX10_draw_322 ⟨by decide, by decide⟩ ?_
    refine X.istore (pc := 323) (i := 6) (ls' := [(6, vI 0), (0, vR 265), (2, vI x2), (3, vI x3), (4, vI x4), (5, vI x5)]) dX10_draw_323 (by decide) rfl ?_
    exact X.pick [1, 4, 0] rfl h
  · have h := h.2 q9
    refine X.aload_n (pc := 63) (i := 0) 0 dX10_draw_63 rfl rfl ?_
    refine X.dup (pc := 64) dX10_draw_64 rfl ?_
    refine X.getI (pc := 65) dX10_draw_65 fl_X10_190 rfl (fs_X10 hW) ?_
    refine X.iconst (pc := 68) dX10_draw_68 ⟨by decide, by decide⟩ ?_
    refine X.isub (pc := 69) dX10_draw_69 ?_
    refine X.putI (pc := 70) dX10_draw_70 fl_X10_190 rfl (fun h9 => by cases h9) (fs_X10 hW) (Or.inl rfl) ?_
    refine X.aload_n (pc := 73) (i := 0) 0 dX10_draw_73 rfl rfl ?_
    refine X.getR (pc := 74) (b := 286) dX10_draw_74 fl_X10_71 rfl (fs_X10 hW) (fp_X10_29 hW) ?_
    refine X.aload_n (pc := 77) (i := 0) 0 dX10_draw_77 rfl rfl ?_
    refine X.getI (pc := 78) dX10_draw_78 fl_X10_190 rfl (fs_X10 hW) ?_
    refine X.topI (y := (w32 (((μ) 265 27) - 1))) ((up_s _ _ _ _)) ?_
    obtain ⟨c1, h⟩ := h
    refine X.iaload (pc := 81) dX10_draw_81 (fa_X10_29 hW) c1 ?_
    refine X.topI (y := ((μ) 286 (Int.toNat (w32 (((μ) 265 27) - 1))))) ((up_a (by decide) _)) ?_
    refine X.istore (pc := 82) (i := 6) (ls' := [(6, vI ((μ) 286 (Int.toNat (w32 (((μ) 265 27) - 1))))), (0, vR 265), (2, vI x2), (3, vI x3), (4, vI x4), (5, vI x5)]) dX10_draw_82 (by decide) rfl ?_
    refine X.aload_n (pc := 84) (i := 0) 1 dX10_draw_84 rfl rfl ?_
    refine X.getR (pc := 85) (b := 287) dX10_draw_85 fl_X10_74 rfl (fs_X10 hW) (fp_X10_30 hW) ?_
    refine X.aload_n (pc := 88) (i := 0) 1 dX10_draw_88 rfl rfl ?_
    refine X.getI (pc := 89) dX10_draw_89 fl_X10_190 rfl (fs_X10 hW) ?_
    refine X.topI (y := (w32 (((μ) 265 27) - 1))) ((up_s _ _ _ _)) ?_
    obtain ⟨c2, h⟩ := h
    refine X.iaload (pc := 92) dX10_draw_92 (fa_X10_30 hW) c2 ?_
    refine X.topI (y := ((μ) 287 (Int.toNat (w32 (((μ) 265 27) - 1))))) ((up_a (by decide) _)) ?_
    refine X.istore (pc := 93) (i := 7) (ls' := [(7, vI ((μ) 287 (Int.toNat (w32 (((μ) 265 27) - 1))))), (6, vI ((μ) 286 (Int.toNat (w32 (((μ) 265 27) - 1))))), (0, vR 265), (2, vI x2), (3, vI x3), (4, vI x4), (5, vI x5)]) dX10_draw_93 (by decide) rfl ?_
    refine X.aload_n (pc := 95) (i := 0) 2 dX10_draw_95 rfl rfl ?_
    refine X.getR (pc := 96) (b := 290) dX10_draw_96 fl_X10_83 rfl (fs_X10 hW) (fp_X10_33 hW) ?_
    refine X.aload_n (pc := 99) (i := 0) 2 dX10_draw_99 rfl rfl ?_
    refine X.getI (pc := 100) dX10_draw_100 fl_X10_190 rfl (fs_X10 hW) ?_
    refine X.topI (y := (w32 (((μ) 265 27) - 1))) ((up_s _ _ _ _)) ?_
    obtain ⟨c3, h⟩ := h
    refine X.iaload (pc := 103) dX10_draw_103 (fa_X10_33 hW) c3 ?_
    refine X.topI (y := ((μ) 290 (Int.toNat (w32 (((μ) 265 27) - 1))))) ((up_a (by decide) _)) ?_
    refine X.istore (pc := 104) (i := 8) (ls' := [(8, vI ((μ) 290 (Int.toNat (w32 (((μ) 265 27) - 1))))), (7, vI ((μ) 287 (Int.toNat (w32 (((μ) 265 27) - 1))))), (6, vI ((μ) 286 (Int.toNat (w32 (((μ) 265 27) - 1))))), (0, vR 265), (2, vI x2), (3, vI x3), (4, vI x4), (5, vI x5)]) dX10_draw_104 (by decide) rfl ?_
    refine X.aload_n (pc := 106) (i := 0) 3 dX10_draw_106 rfl rfl ?_
    refine X.getR (pc := 107) (b := 291) dX10_draw_107 fl_X10_86 rfl (fs_X10 hW) (fp_X10_34 hW) ?_
    refine X.aload_n (pc := 110) (i := 0) 3 dX10_draw_110 rfl rfl ?_
    refine X.getI (pc := 111) dX10_draw_111 fl_X10_190 rfl (fs_X10 hW) ?_
    refine X.topI (y := (w32 (((μ) 265 27) - 1))) ((up_s _ _ _ _)) ?_
    obtain ⟨c4, h⟩ := h
    refine X.iaload (pc := 114) dX10_draw_114 (fa_X10_34 hW) c4 ?_
    refine X.topI (y := ((μ) 291 (Int.toNat (w32 (((μ) 265 27) - 1))))) ((up_a (by decide) _)) ?_
    refine X.istore (pc := 115) (i := 9) (ls' := [(9, vI ((μ) 291 (Int.toNat (w32 (((μ) 265 27) - 1))))), (8, vI ((μ) 290 (Int.toNat (w32 (((μ) 265 27) - 1))))), (7, vI ((μ) 287 (Int.toNat (w32 (((μ) 265 27) - 1))))), (6, vI ((μ) 286 (Int.toNat (w32 (((μ) 265 27) - 1))))), (0, vR 265), (2, vI x2), (3, vI x3), (4, vI x4), (5, vI x5)]) dX10_draw_115 (by decide) rfl ?_
    refine X.iload (pc := 117) (i := 7) 2 dX10_draw_117 rfl ?_
    refine X.bipush (pc := 119) (y := 19) dX10_draw_119 rfl ⟨by decide, by decide⟩ ?_
    refine X.icmp_le (pc := 121) 129 dX10_draw_121 (by decide) ⟨fun q9 => ?_, fun q9 => ?_⟩
    · have h := h.1 q9
      refine X.aload_n (pc := 129) (i := 0) 4 dX10_draw_129 rfl rfl ?_
      refine X.aload_n (pc := 130) (i := 0) 4 dX10_draw_130 rfl rfl ?_
      refine X.getR (pc := 131) (b := 285) dX10_draw_131 fl_X10_68 rfl (fs_X10 hW) (fp_X10_28 hW) ?_
      refine X.aload_n (pc := 134) (i := 0) 4 dX10_draw_134 rfl rfl ?_
      refine X.getI (pc := 135) dX10_draw_135 fl_X10_190 rfl (fs_X10 hW) ?_
      refine X.topI (y := (w32 (((μ) 265 27) - 1))) ((up_s _ _ _ _)) ?_
      obtain ⟨c5, h⟩ := h
      refine X.iaload (pc := 138) dX10_draw_138 (fa_X10_28 hW) c5 ?_
      refine X.topI (y := ((μ) 285 (Int.toNat (w32 (((μ) 265 27) - 1))))) ((up_a (by decide) _)) ?_
      refine X.iload (pc := 139) (i := 6) 3 dX10_draw_139 rfl ?_
      refine X.iload (pc := 141) (i := 8) 1 dX10_draw_141 rfl ?_
      refine X.iload (pc := 143) (i := 9) 0 dX10_draw_143 rfl ?_
      refine X.pick [4, 5, 6, 7, 8, 3, 2, 1, 0] rfl ?_
      exact X.callV (pc := 145) (vs := [vI ((μ) 285 (Int.toNat (w32 (((μ) 265 27) - 1)))), vI ((μ) 286 (Int.toNat (w32 (((μ) 265 27) - 1)))), vI ((μ) 290 (Int.toNat (w32 (((μ) 265 27) - 1)))), vI ((μ) 291 (Int.toNat (w32 (((μ) 265 27) - 1))))]) (st := []) dX10_draw_145 rfl okM_X10_picked rfl lk_X10_198 inst_X10_picked sel_X10_picked (fs_X10 hW) rfl ⟨⟨by decide, by decide⟩, ⟨by decide, by decide⟩, Nat.le_of_ble_eq_true rfl⟩ (Nat.le_of_ble_eq_true rfl) h
    · have h := h.2 q9
      refine X.bipush (pc := 124) (y := -9) dX10_draw_124 rfl ⟨by decide, by decide⟩ ?_
      refine X.goto (pc := 126) (tgt := 148) dX10_draw_126 (by decide) ?_
      exact X.pick [4, 5, 6, 7, 8, 3, 2, 1, 0] rfl h

theorem g_X10_draw_148 {sh : List (Nat × Nat)} {ν : Nat → Nat → Option Nat} {μ : Nat → Nat → Int} {f s : Nat} {Q : xQ} (hW : WF sh ν f s) {x2 : Int} {x3 : Int} {x4 : Int} {x5 : Int} {x6 : Int} {x7 : Int} {x8 : Int} {x9 : Int} {y0 : Int}
    (h : ((y0 ≠ (-9) → (0 ≤ x4 ∧ x4 < (8000 : Nat)) ∧ (0 ≤ y0 ∧ y0 < (40 : Nat)) ∧ (0 ≤ y0 ∧ y0 < (40 : Nat)) ∧ ((((μ) 267 (Int.toNat y0)) ≠ 0 → X mX10_lay 0 [(0, vR 265), (1, vI y0), (2, vI x8), (3, vI x9)] [] sh (ν) (up μ 284 (Int.toNat x4) y0) 0 0 (fun v sh' ν' μ' => X mX10_draw 258 [(0, vR 265), (2, vI x2), (3, vI x3), (4, vI (w32 (x4 + 1))), (5, vI (w32 (x5 + ((μ) 268 (Int.toNat y0))))), (6, vI x6), (7, vI x7), (8, vI x8), (9, vI x9), (10, vI y0)] (v.toList ++ []) sh' ν' μ' 0 0 Q)) ∧ (((μ) 267 (Int.toNat y0)) = 0 → (0 ≤ ((μ) 265 27) ∧ ((μ) 265 27) < (600 : Nat)) ∧ (0 ≤ ((μ) 265 27) ∧ ((μ) 265 27) < (600 : Nat)) ∧ (0 ≤ y0 ∧ y0 < (40 : Nat)) ∧ X mX10_fillDraft 0 [(0, vR 265), (1, vI ((μ) 288 (Int.toNat ((μ) 265 27)))), (2, vI ((μ) 289 (Int.toNat ((μ) 265 27)))), (3, vI x8), (4, vI x9), (5, vI ((μ) 269 (Int.toNat y0)))] [] sh (ν) (up μ 284 (Int.toNat x4) y0) 0 0 (fun v sh' ν' μ' => X mX10_draw 245 [(0, vR 265), (2, vI x2), (3, vI x3), (4, vI (w32 (x4 + 1))), (5, vI (w32 (x5 + ((μ) 268 (Int.toNat y0)))))] (v.toList ++ []) sh' ν' μ' 0 0 Q)))) ∧ (y0 = (-9) → ((x7 ≤ 19 → Q (some (vI (-101))) sh (ν) (up μ 265 26 x6)) ∧ (19 < x7 → Q (some (vI (-102))) sh (ν) (up μ 265 26 x6)))))) :
    X mX10_draw 148 [(0, vR 265), (2, vI x2), (3, vI x3), (4, vI x4), (5, vI x5), (6, vI x6), (7, vI x7), (8, vI x8), (9, vI x9)] [vI y0] sh ν μ 0 0 Q := by
  refine X.istore (pc := 148) (i := 10) (ls' := [(10, vI y0), (0, vR 265), (2, vI x2), (3, vI x3), (4, vI x4), (5, vI x5), (6, vI x6), (7, vI x7), (8, vI x8), (9, vI x9)]) dX10_draw_148 (by decide) rfl ?_
  refine X.iload (pc := 150) (i := 10) 0 dX10_draw_150 rfl ?_
  refine X.bipush (pc := 152) (y := -9) dX10_draw_152 rfl ⟨by decide, by decide⟩ ?_
  refine X.icmp_ne (pc := 154) 178 dX10_draw_154 (by decide) ⟨fun q9 => ?_, fun q9 => ?_⟩
  · have h := h.1 q9
    refine X.aload_n (pc := 178) (i := 0) 1 dX10_draw_178 rfl rfl ?_
    refine X.getR (pc := 179) (b := 284) dX10_draw_179 fl_X10_65 rfl (fs_X10 hW) (fp_X10_25 hW) ?_
    refine X.iload (pc := 182) (i := 4) 4 dX10_draw_182 rfl ?_
    refine X.iload (pc := 184) (i := 10) 0 dX10_draw_184 rfl ?_
    obtain ⟨c1, h⟩ := h
    refine X.iastore (pc := 186) dX10_draw_186 (fa_X10_25 hW) c1 ?_
    refine X.iinc (pc := 187) (i := 4) (ls' := [(4, vI (w32 (x4 + 1))), (10, vI y0), (0, vR 265), (2, vI x2), (3, vI x3), (5, vI x5), (6, vI x6), (7, vI x7), (8, vI x8), (9, vI x9)]) 4 dX10_draw_187 rfl (by decide) rfl ?_
    refine X.iload (pc := 190) (i := 5) 5 dX10_draw_190 rfl ?_
    refine X.aload_n (pc := 192) (i := 0) 2 dX10_draw_192 rfl rfl ?_
    refine X.getR (pc := 193) (b := 268) dX10_draw_193 fl_X10_16 rfl (fs_X10 hW) (fp_X10_3 hW) ?_
    refine X.iload (pc := 196) (i := 10) 1 dX10_draw_196 rfl ?_
    obtain ⟨c2, h⟩ := h
    refine X.iaload (pc := 198) dX10_draw_198 (fa_X10_3 hW) c2 ?_
    refine X.topI (y := ((μ) 268 (Int.toNat y0))) ((up_a (by decide) _)) ?_
    refine X.iadd (pc := 199) dX10_draw_199 ?_
    refine X.istore (pc := 200) (i := 5) (ls' := [(5, vI (w32 (x5 + ((μ) 268 (Int.toNat y0))))), (4, vI (w32 (x4 + 1))), (10, vI y0), (0, vR 265), (2, vI x2), (3, vI x3), (6, vI x6), (7, vI x7), (8, vI x8), (9, vI x9)]) dX10_draw_200 (by decide) rfl ?_
    refine X.aload_n (pc := 202) (i := 0) 3 dX10_draw_202 rfl rfl ?_
    refine X.getR (pc := 203) (b := 267) dX10_draw_203 fl_X10_13 rfl (fs_X10 hW) (fp_X10_2 hW) ?_
    refine X.iload (pc := 206) (i := 10) 2 dX10_draw_206 rfl ?_
    obtain ⟨c3, h⟩ := h
    refine X.iaload (pc := 208) dX10_draw_208 (fa_X10_2 hW) c3 ?_
    refine X.topI (y := ((μ) 267 (Int.toNat y0))) ((up_a (by decide) _)) ?_
    refine X.if_ne (pc := 209) 248 dX10_draw_209 (by decide) ⟨fun q9 => ?_, fun q9 => ?_⟩
    · have h := h.1 q9
      refine X.aload_n (pc := 248) (i := 0) 3 dX10_draw_248 rfl rfl ?_
      refine X.iload (pc := 249) (i := 10) 2 dX10_draw_249 rfl ?_
      refine X.iload (pc := 251) (i := 8) 8 dX10_draw_251 rfl ?_
      refine X.iload (pc := 253) (i := 9) 9 dX10_draw_253 rfl ?_
      refine X.pick [3, 4, 5, 1, 0, 6, 7, 8, 9, 2] rfl ?_
      exact X.callV (pc := 255) (vs := [vI y0, vI x8, vI x9]) (st := []) dX10_draw_255 rfl okM_X10_lay rfl lk_X10_186 inst_X10_lay sel_X10_lay (fs_X10 hW) rfl ⟨⟨by decide, by decide⟩, ⟨by decide, by decide⟩, Nat.le_of_ble_eq_true rfl⟩ (Nat.le_of_ble_eq_true rfl) h
    · have h := h.2 q9
      refine X.aload_n (pc := 212) (i := 0) 3 dX10_draw_212 rfl rfl ?_
      refine X.aload_n (pc := 213) (i := 0) 3 dX10_draw_213 rfl rfl ?_
      refine X.getR (pc := 214) (b := 288) dX10_draw_214 fl_X10_77 rfl (fs_X10 hW) (fp_X10_31 hW) ?_
      refine X.aload_n (pc := 217) (i := 0) 3 dX10_draw_217 rfl rfl ?_
      refine X.getI (pc := 218) dX10_draw_218 fl_X10_190 rfl (fs_X10 hW) ?_
      refine X.topI (y := ((μ) 265 27)) ((up_a (by decide) _)) ?_
      obtain ⟨c4, h⟩ := h
      refine X.iaload (pc := 221) dX10_draw_221 (fa_X10_31 hW) c4 ?_
      refine X.topI (y := ((μ) 288 (Int.toNat ((μ) 265 27)))) ((up_a (by decide) _)) ?_
      refine X.aload_n (pc := 222) (i := 0) 3 dX10_draw_222 rfl rfl ?_
      refine X.getR (pc := 223) (b := 289) dX10_draw_223 fl_X10_80 rfl (fs_X10 hW) (fp_X10_32 hW) ?_
      refine X.aload_n (pc := 226) (i := 0) 3 dX10_draw_226 rfl rfl ?_
      refine X.getI (pc := 227) dX10_draw_227 fl_X10_190 rfl (fs_X10 hW) ?_
      refine X.topI (y := ((μ) 265 27)) ((up_a (by decide) _)) ?_
      obtain ⟨c5, h⟩ := h
      refine X.iaload (pc := 230) dX10_draw_230 (fa_X10_32 hW) c5 ?_
      refine X.topI (y := ((μ) 289 (Int.toNat ((μ) 265 27)))) ((up_a (by decide) _)) ?_
      refine X.iload (pc := 231) (i := 8) 8 dX10_draw_231 rfl ?_
      refine X.iload (pc := 233) (i := 9) 9 dX10_draw_233 rfl ?_
      refine X.aload_n (pc := 235) (i := 0) 3 dX10_draw_235 rfl rfl ?_
      refine X.getR (pc := 236) (b := 269) dX10_draw_236 fl_X10_19 rfl (fs_X10 hW) (fp_X10_4 hW) ?_
      refine X.iload (pc := 239) (i := 10) 2 dX10_draw_239 rfl ?_
      obtain ⟨c6, h⟩ := h
      refine X.iaload (pc := 241) dX10_draw_241 (fa_X10_4 hW) c6 ?_
      refine X.topI (y := ((μ) 269 (Int.toNat y0))) ((up_a (by decide) _)) ?_
      refine X.pick [3, 4, 5, 1, 0] rfl ?_
      exact X.callV (pc := 242) (vs := [vI ((μ) 288 (Int.toNat ((μ) 265 27))), vI ((μ) 289 (Int.toNat ((μ) 265 27))), vI x8, vI x9, vI ((μ) 269 (Int.toNat y0))]) (st := []) dX10_draw_242 rfl okM_X10_fillDraft rfl lk_X10_204 inst_X10_fillDraft sel_X10_fillDraft (fs_X10 hW) rfl ⟨⟨by decide, by decide⟩, ⟨by decide, by decide⟩, Nat.le_of_ble_eq_true rfl⟩ (Nat.le_of_ble_eq_true rfl) h
  · have h := h.2 q9
    refine X.aload_n (pc := 157) (i := 0) 1 dX10_draw_157 rfl rfl ?_
    refine X.iload (pc := 158) (i := 6) 6 dX10_draw_158 rfl ?_
    refine X.putI (pc := 160) dX10_draw_160 fl_X10_201 rfl (fun h9 => by cases h9) (fs_X10 hW) (Or.inl rfl) ?_
    refine X.iload (pc := 163) (i := 7) 7 dX10_draw_163 rfl ?_
    refine X.bipush (pc := 165) (y := 19) dX10_draw_165 rfl ⟨by decide, by decide⟩ ?_
    refine X.icmp_le (pc := 167) 175 dX10_draw_167 (by decide) ⟨fun q9 => ?_, fun q9 => ?_⟩
    · have h := h.1 q9
      refine X.bipush (pc := 175) (y := -101) dX10_draw_175 rfl ⟨by decide, by decide⟩ ?_
      exact X.iret (pc := 177) dX10_draw_177 rfl (Nat.le_of_ble_eq_true rfl) (Nat.le_of_ble_eq_true rfl) h
    · have h := h.2 q9
      refine X.bipush (pc := 170) (y := -102) dX10_draw_170 rfl ⟨by decide, by decide⟩ ?_
      refine X.goto (pc := 172) (tgt := 177) dX10_draw_172 (by decide) ?_
      exact X.iret (pc := 177) dX10_draw_177 rfl (Nat.le_of_ble_eq_true rfl) (Nat.le_of_ble_eq_true rfl) h

theorem g_X10_draw_245 {sh : List (Nat × Nat)} {ν : Nat → Nat → Option Nat} {μ : Nat → Nat → Int} {f s : Nat} {Q : xQ} (hW : WF sh ν f s) {x2 : Int} {x3 : Int} {x4 : Int} {x5 : Int}
    (h : X mX10_draw 292 [(0, vR 265), (2, vI x2), (3, vI x3), (4, vI x4), (5, vI x5)] [] sh (ν) (μ) 0 0 Q) :
    X mX10_draw 245 [(0, vR 265), (2, vI x2), (3, vI x3), (4, vI x4), (5, vI x5)] [] sh ν μ 0 0 Q := by
  refine X.goto (pc := 245) (tgt := 292) dX10_draw_245 (by decide) ?_
  exact h

theorem g_X10_draw_258 {sh : List (Nat × Nat)} {ν : Nat → Nat → Option Nat} {μ : Nat → Nat → Int} {f s : Nat} {Q : xQ} (hW : WF sh ν f s) {x2 : Int} {x3 : Int} {x4 : Int} {x5 : Int} {x6 : Int} {x7 : Int} {x8 : Int} {x9 : Int} {x10 : Int} {y0 : Int}
    (h : (0 ≤ ((μ) 265 27) ∧ ((μ) 265 27) < (600 : Nat)) ∧ (0 ≤ ((μ) 265 27) ∧ ((μ) 265 27) < (600 : Nat)) ∧ X mX10_putPieces 0 [(0, vR 265), (1, vI x10), (2, vI x6), (3, vI x7), (4, vI ((μ) 288 (Int.toNat ((μ) 265 27)))), (5, vI ((μ) 289 (Int.toNat ((μ) 265 27)))), (6, vI x8), (7, vI x9)] [] sh (ν) (μ) 0 0 (fun v sh' ν' μ' => X mX10_draw 292 [(0, vR 265), (2, vI x2), (3, vI x3), (4, vI x4), (5, vI x5)] (v.toList ++ []) sh' ν' μ' 0 0 Q)) :
    X mX10_draw 258 [(0, vR 265), (2, vI x2), (3, vI x3), (4, vI x4), (5, vI x5), (6, vI x6), (7, vI x7), (8, vI x8), (9, vI x9), (10, vI x10)] [vI y0] sh ν μ 0 0 Q := by
  refine X.istore (pc := 258) (i := 11) (ls' := [(11, vI y0), (0, vR 265), (2, vI x2), (3, vI x3), (4, vI x4), (5, vI x5), (6, vI x6), (7, vI x7), (8, vI x8), (9, vI x9), (10, vI x10)]) dX10_draw_258 (by decide) rfl ?_
  refine X.aload_n (pc := 260) (i := 0) 1 dX10_draw_260 rfl rfl ?_
  refine X.iload (pc := 261) (i := 10) 10 dX10_draw_261 rfl ?_
  refine X.iload (pc := 263) (i := 6) 6 dX10_draw_263 rfl ?_
  refine X.iload (pc := 265) (i := 7) 7 dX10_draw_265 rfl ?_
  refine X.aload_n (pc := 267) (i := 0) 1 dX10_draw_267 rfl rfl ?_
  refine X.getR (pc := 268) (b := 288) dX10_draw_268 fl_X10_77 rfl (fs_X10 hW) (fp_X10_31 hW) ?_
  refine X.aload_n (pc := 271) (i := 0) 1 dX10_draw_271 rfl rfl ?_
  refine X.getI (pc := 272) dX10_draw_272 fl_X10_190 rfl (fs_X10 hW) ?_
  obtain ⟨c1, h⟩ := h
  refine X.iaload (pc := 275) dX10_draw_275 (fa_X10_31 hW) c1 ?_
  refine X.aload_n (pc := 276) (i := 0) 1 dX10_draw_276 rfl rfl ?_
  refine X.getR (pc := 277) (b := 289) dX10_draw_277 fl_X10_80 rfl (fs_X10 hW) (fp_X10_32 hW) ?_
  refine X.aload_n (pc := 280) (i := 0) 1 dX10_draw_280 rfl rfl ?_
  refine X.getI (pc := 281) dX10_draw_281 fl_X10_190 rfl (fs_X10 hW) ?_
  obtain ⟨c2, h⟩ := h
  refine X.iaload (pc := 284) dX10_draw_284 (fa_X10_32 hW) c2 ?_
  refine X.iload (pc := 285) (i := 8) 8 dX10_draw_285 rfl ?_
  refine X.iload (pc := 287) (i := 9) 9 dX10_draw_287 rfl ?_
  refine X.pick [1, 2, 3, 4, 5] rfl ?_
  exact X.callV (pc := 289) (vs := [vI x10, vI x6, vI x7, vI ((μ) 288 (Int.toNat ((μ) 265 27))), vI ((μ) 289 (Int.toNat ((μ) 265 27))), vI x8, vI x9]) (st := []) dX10_draw_289 rfl okM_X10_putPieces rfl lk_X10_207 inst_X10_putPieces sel_X10_putPieces (fs_X10 hW) rfl ⟨⟨by decide, by decide⟩, ⟨by decide, by decide⟩, Nat.le_of_ble_eq_true rfl⟩ (Nat.le_of_ble_eq_true rfl) h

theorem g_X10_draw_292 {sh : List (Nat × Nat)} {ν : Nat → Nat → Option Nat} {μ : Nat → Nat → Int} {f s : Nat} {Q : xQ} (hW : WF sh ν f s) {x2 : Int} {x3 : Int} {x4 : Int} {x5 : Int}
    (h : X mX10_draw 56 [(0, vR 265), (2, vI x2), (3, vI x3), (4, vI x4), (5, vI x5)] [] sh (ν) (μ) 0 0 Q) :
    X mX10_draw 292 [(0, vR 265), (2, vI x2), (3, vI x3), (4, vI x4), (5, vI x5)] [] sh ν μ 0 0 Q := by
  refine X.goto (pc := 292) (tgt := 56) dX10_draw_292 (by decide) ?_
  exact h

theorem g_X10_draw_325 {sh : List (Nat × Nat)} {ν : Nat → Nat → Option Nat} {μ : Nat → Nat → Int} {f s : Nat} {Q : xQ} (hW : WF sh ν f s) {x4 : Int} {x6 : Int}
    (h : ((x4 ≤ x6 → X mX10_draw 355 [(0, vR 265), (4, vI x4), (6, vI 0)] [] sh (ν) (μ) 0 0 Q) ∧ (x6 < x4 → (0 ≤ x6 ∧ x6 < (8000 : Nat)) ∧ (0 ≤ x6 ∧ x6 < (8000 : Nat)) ∧ X mX10_draw 325 [(0, vR 265), (4, vI x4), (6, vI (w32 (x6 + 1)))] [] sh (ν) (up μ 281 (Int.toNat x6) ((μ) 284 (Int.toNat x6))) 0 0 Q))) :
    X mX10_draw 325 [(0, vR 265), (4, vI x4), (6, vI x6)] [] sh ν μ 0 0 Q := by
  refine X.iload (pc := 325) (i := 6) 2 dX10_draw_325 rfl ?_
  refine X.iload (pc := 327) (i := 4) 1 dX10_draw_327 rfl ?_
  refine X.icmp_ge (pc := 329) 352 dX10_draw_329 (by decide) ⟨fun q9 => ?_, fun q9 => ?_⟩
  · have h := h.1 q9
    refine X.iconst (pc := 352) dX10_draw_352 ⟨by decide, by decide⟩ ?_
    refine X.istore (pc := 353) (i := 6) (ls' := [(6, vI 0), (0, vR 265), (4, vI x4)]) dX10_draw_353 (by decide) rfl ?_
    exact X.pick [1, 2, 0] rfl h
  · have h := h.2 q9
    refine X.aload_n (pc := 332) (i := 0) 0 dX10_draw_332 rfl rfl ?_
    refine X.getR (pc := 333) (b := 281) dX10_draw_333 fl_X10_56 rfl (fs_X10 hW) (fp_X10_21 hW) ?_
    refine X.iload (pc := 336) (i := 6) 2 dX10_draw_336 rfl ?_
    refine X.aload_n (pc := 338) (i := 0) 0 dX10_draw_338 rfl rfl ?_
    refine X.getR (pc := 339) (b := 284) dX10_draw_339 fl_X10_65 rfl (fs_X10 hW) (fp_X10_25 hW) ?_
    refine X.iload (pc := 342) (i := 6) 2 dX10_draw_342 rfl ?_
    obtain ⟨c1, h⟩ := h
    refine X.iaload (pc := 344) dX10_draw_344 (fa_X10_25 hW) c1 ?_
    obtain ⟨c2, h⟩ := h
    refine X.iastore (pc := 345) dX10_draw_345 (fa_X10_21 hW) c2 ?_
    refine X.iinc (pc := 346) (i := 6) (ls' := [(6, vI (w32 (x6 + 1))), (0, vR 265), (4, vI x4)]) 2 dX10_draw_346 rfl (by decide) rfl ?_
    refine X.goto (pc := 349) (tgt := 325) dX10_draw_349 (by decide) ?_
    exact X.pick [1, 2, 0] rfl h

theorem g_X10_draw_355 {sh : List (Nat × Nat)} {ν : Nat → Nat → Option Nat} {μ : Nat → Nat → Int} {f s : Nat} {Q : xQ} (hW : WF sh ν f s) {x4 : Int} {x6 : Int}
    (h : ((400 ≤ x6 → Q (some (vI x4)) sh (ν) (μ)) ∧ (x6 < 400 → (0 ≤ x6 ∧ x6 < (400 : Nat)) ∧ (0 ≤ x6 ∧ x6 < (400 : Nat)) ∧ X mX10_draw 355 [(0, vR 265), (4, vI x4), (6, vI (w32 (x6 + 1)))] [] sh (ν) (up μ 282 (Int.toNat x6) ((μ) 283 (Int.toNat x6))) 0 0 Q))) :
    X mX10_draw 355 [(0, vR 265), (4, vI x4), (6, vI x6)] [] sh ν μ 0 0 Q := by
  refine X.iload (pc := 355) (i := 6) 2 dX10_draw_355 rfl ?_
  refine X.sipush (pc := 357) (y := 400) dX10_draw_357 rfl ⟨by decide, by decide⟩ ?_
  refine X.icmp_ge (pc := 360) 383 dX10_draw_360 (by decide) ⟨fun q9 => ?_, fun q9 => ?_⟩
  · have h := h.1 q9
    refine X.iload (pc := 383) (i := 4) 1 dX10_draw_383 rfl ?_
    exact X.iret (pc := 385) dX10_draw_385 rfl (Nat.le_of_ble_eq_true rfl) (Nat.le_of_ble_eq_true rfl) h
  · have h := h.2 q9
    refine X.aload_n (pc := 363) (i := 0) 0 dX10_draw_363 rfl rfl ?_
    refine X.getR (pc := 364) (b := 282) dX10_draw_364 fl_X10_59 rfl (fs_X10 hW) (fp_X10_23 hW) ?_
    refine X.iload (pc := 367) (i := 6) 2 dX10_draw_367 rfl ?_
    refine X.aload_n (pc := 369) (i := 0) 0 dX10_draw_369 rfl rfl ?_
    refine X.getR (pc := 370) (b := 283) dX10_draw_370 fl_X10_62 rfl (fs_X10 hW) (fp_X10_24 hW) ?_
    refine X.iload (pc := 373) (i := 6) 2 dX10_draw_373 rfl ?_
    obtain ⟨c1, h⟩ := h
    refine X.iaload (pc := 375) dX10_draw_375 (fa_X10_24 hW) c1 ?_
    obtain ⟨c2, h⟩ := h
    refine X.iastore (pc := 376) dX10_draw_376 (fa_X10_23 hW) c2 ?_
    refine X.iinc (pc := 377) (i := 6) (ls' := [(6, vI (w32 (x6 + 1))), (0, vR 265), (4, vI x4)]) 2 dX10_draw_377 rfl (by decide) rfl ?_
    refine X.goto (pc := 380) (tgt := 355) dX10_draw_380 (by decide) ?_
    exact X.pick [1, 2, 0] rfl h

theorem g_X10_take_0 {sh : List (Nat × Nat)} {ν : Nat → Nat → Option Nat} {μ : Nat → Nat → Int} {f s : Nat} {Q : xQ} (hW : WF sh ν f s) 
    (h : ((((μ) 265 18) = 0 → Q (some (vI (-3))) sh (ν) (μ)) ∧ (((μ) 265 18) ≠ 0 → ((9 < ((μ) 265 18) → Q (some (vI (-3))) sh (ν) (μ)) ∧ (((μ) 265 18) ≤ 9 → ((((μ) 265 19) ≤ 9 → X mX10_boards 0 [(0, vR 265), (1, vI ((μ) 265 18)), (2, vI ((μ) 265 19))] [] sh (ν) (μ) 0 0 (fun v sh' ν' μ' => X mX10_take 40 [(0, vR 265)] (v.toList ++ []) sh' ν' μ' 0 0 Q)) ∧ (9 < ((μ) 265 19) → Q (some (vI (-3))) sh (ν) (μ)))))))) :
    X mX10_take 0 [(0, vR 265)] [] sh ν μ 0 0 Q := by
  refine X.aload_n (pc := 0) (i := 0) 0 dX10_take_0 rfl rfl ?_
  refine X.getI (pc := 1) dX10_take_1 fl_X10_164 rfl (fs_X10 hW) ?_
  refine X.if_eq (pc := 4) 25 dX10_take_4 (by decide) ⟨fun q9 => ?_, fun q9 => ?_⟩
  · have h := h.1 q9
    refine X.bipush (pc := 25) (y := -3) dX10_take_25 rfl ⟨by decide, by decide⟩ ?_
    exact X.iret (pc := 27) dX10_take_27 rfl (Nat.le_of_ble_eq_true rfl) (Nat.le_of_ble_eq_true rfl) h
  · have h := h.2 q9
    refine X.aload_n (pc := 7) (i := 0) 0 dX10_take_7 rfl rfl ?_
    refine X.getI (pc := 8) dX10_take_8 fl_X10_164 rfl (fs_X10 hW) ?_
    refine X.bipush (pc := 11) (y := 9) dX10_take_11 rfl ⟨by decide, by decide⟩ ?_
    refine X.icmp_gt (pc := 13) 25 dX10_take_13 (by decide) ⟨fun q9 => ?_, fun q9 => ?_⟩
    · have h := h.1 q9
      refine X.bipush (pc := 25) (y := -3) dX10_take_25 rfl ⟨by decide, by decide⟩ ?_
      exact X.iret (pc := 27) dX10_take_27 rfl (Nat.le_of_ble_eq_true rfl) (Nat.le_of_ble_eq_true rfl) h
    · have h := h.2 q9
      refine X.aload_n (pc := 16) (i := 0) 0 dX10_take_16 rfl rfl ?_
      refine X.getI (pc := 17) dX10_take_17 fl_X10_167 rfl (fs_X10 hW) ?_
      refine X.bipush (pc := 20) (y := 9) dX10_take_20 rfl ⟨by decide, by decide⟩ ?_
      refine X.icmp_le (pc := 22) 28 dX10_take_22 (by decide) ⟨fun q9 => ?_, fun q9 => ?_⟩
      · have h := h.1 q9
        refine X.aload_n (pc := 28) (i := 0) 0 dX10_take_28 rfl rfl ?_
        refine X.aload_n (pc := 29) (i := 0) 0 dX10_take_29 rfl rfl ?_
        refine X.getI (pc := 30) dX10_take_30 fl_X10_164 rfl (fs_X10 hW) ?_
        refine X.aload_n (pc := 33) (i := 0) 0 dX10_take_33 rfl rfl ?_
        refine X.getI (pc := 34) dX10_take_34 fl_X10_167 rfl (fs_X10 hW) ?_
        exact X.callV (pc := 37) (vs := [vI ((μ) 265 18), vI ((μ) 265 19)]) (st := []) dX10_take_37 rfl okM_X10_boards rfl lk_X10_118 inst_X10_boards sel_X10_boards (fs_X10 hW) rfl ⟨⟨by decide, by decide⟩, ⟨by decide, by decide⟩, Nat.le_of_ble_eq_true rfl⟩ (Nat.le_of_ble_eq_true rfl) h
      · have h := h.2 q9
        refine X.bipush (pc := 25) (y := -3) dX10_take_25 rfl ⟨by decide, by decide⟩ ?_
        exact X.iret (pc := 27) dX10_take_27 rfl (Nat.le_of_ble_eq_true rfl) (Nat.le_of_ble_eq_true rfl) h

theorem g_X10_take_40 {sh : List (Nat × Nat)} {ν : Nat → Nat → Option Nat} {μ : Nat → Nat → Int} {f s : Nat} {Q : xQ} (hW : WF sh ν f s) 
    (h : X mX10_take 42 [(0, vR 265), (1, vI 0)] [] sh (ν) (μ) 0 0 Q) :
    X mX10_take 40 [(0, vR 265)] [] sh ν μ 0 0 Q := by
  refine X.iconst (pc := 40) dX10_take_40 ⟨by decide, by decide⟩ ?_
  refine X.istore_n (pc := 41) (i := 1) (ls' := [(1, vI 0), (0, vR 265)]) dX10_take_41 rfl (by decide) rfl ?_
  exact X.pick [1, 0] rfl h

theorem g_X10_take_42 {sh : List (Nat × Nat)} {ν : Nat → Nat → Option Nat} {μ : Nat → Nat → Int} {f s : Nat} {Q : xQ} (hW : WF sh ν f s) {x1 : Int}
    (h : ((((μ) 265 19) ≤ x1 → Q (some (vI 1)) sh (ν) (μ)) ∧ (x1 < ((μ) 265 19) → X mX10_take 52 [(0, vR 265), (1, vI x1), (2, vI 0)] [] sh (ν) (μ) 0 0 Q))) :
    X mX10_take 42 [(0, vR 265), (1, vI x1)] [] sh ν μ 0 0 Q := by
  refine X.iload_n (pc := 42) (i := 1) 1 dX10_take_42 rfl rfl ?_
  refine X.aload_n (pc := 43) (i := 0) 0 dX10_take_43 rfl rfl ?_
  refine X.getI (pc := 44) dX10_take_44 fl_X10_167 rfl (fs_X10 hW) ?_
  refine X.icmp_ge (pc := 47) 99 dX10_take_47 (by decide) ⟨fun q9 => ?_, fun q9 => ?_⟩
  · have h := h.1 q9
    refine X.iconst (pc := 99) dX10_take_99 ⟨by decide, by decide⟩ ?_
    exact X.iret (pc := 100) dX10_take_100 rfl (Nat.le_of_ble_eq_true rfl) (Nat.le_of_ble_eq_true rfl) h
  · have h := h.2 q9
    refine X.iconst (pc := 50) dX10_take_50 ⟨by decide, by decide⟩ ?_
    refine X.istore_n (pc := 51) (i := 2) (ls' := [(2, vI 0), (0, vR 265), (1, vI x1)]) dX10_take_51 rfl (by decide) rfl ?_
    exact X.pick [1, 2, 0] rfl h

theorem g_X10_take_52 {sh : List (Nat × Nat)} {ν : Nat → Nat → Option Nat} {μ : Nat → Nat → Int} {f s : Nat} {Q : xQ} (hW : WF sh ν f s) {x1 : Int} {x2 : Int}
    (h : ((((μ) 265 18) ≤ x2 → X mX10_take 42 [(0, vR 265), (1, vI (w32 (x1 + 1)))] [] sh (ν) (μ) 0 0 Q) ∧ (x2 < ((μ) 265 18) → (0 ≤ (w32 ((w32 (20 * x1)) + x2)) ∧ (w32 ((w32 (20 * x1)) + x2)) < (400 : Nat)) ∧ (0 ≤ (w32 ((w32 (9 * x1)) + x2)) ∧ (w32 ((w32 (9 * x1)) + x2)) < (81 : Nat)) ∧ X mX10_take 52 [(0, vR 265), (1, vI x1), (2, vI (w32 (x2 + 1)))] [] sh (ν) (up (up μ 292 (Int.toNat (w32 ((w32 (9 * x1)) + x2))) ((μ) 282 (Int.toNat (w32 ((w32 (20 * x1)) + x2))))) 265 50 0) 0 0 Q))) :
    X mX10_take 52 [(0, vR 265), (1, vI x1), (2, vI x2)] [] sh ν μ 0 0 Q := by
  refine X.iload_n (pc := 52) (i := 2) 2 dX10_take_52 rfl rfl ?_
  refine X.aload_n (pc := 53) (i := 0) 0 dX10_take_53 rfl rfl ?_
  refine X.getI (pc := 54) dX10_take_54 fl_X10_164 rfl (fs_X10 hW) ?_
  refine X.icmp_ge (pc := 57) 93 dX10_take_57 (by decide) ⟨fun q9 => ?_, fun q9 => ?_⟩
  · have h := h.1 q9
    refine X.iinc (pc := 93) (i := 1) (ls' := [(1, vI (w32 (x1 + 1))), (0, vR 265), (2, vI x2)]) 1 dX10_take_93 rfl (by decide) rfl ?_
    refine X.goto (pc := 96) (tgt := 42) dX10_take_96 (by decide) ?_
    exact X.pick [1, 0] rfl h
  · have h := h.2 q9
    refine X.aload_n (pc := 60) (i := 0) 0 dX10_take_60 rfl rfl ?_
    refine X.getR (pc := 61) (b := 292) dX10_take_61 fl_X10_89 rfl (fs_X10 hW) (fp_X10_37 hW) ?_
    refine X.bipush (pc := 64) (y := 9) dX10_take_64 rfl ⟨by decide, by decide⟩ ?_
    refine X.iload_n (pc := 66) (i := 1) 1 dX10_take_66 rfl rfl ?_
    refine X.imul (pc := 67) dX10_take_67 ?_
    refine X.iload_n (pc := 68) (i := 2) 2 dX10_take_68 rfl rfl ?_
    refine X.iadd (pc := 69) dX10_take_69 ?_
    refine X.aload_n (pc := 70) (i := 0) 0 dX10_take_70 rfl rfl ?_
    refine X.getR (pc := 71) (b := 282) dX10_take_71 fl_X10_59 rfl (fs_X10 hW) (fp_X10_23 hW) ?_
    refine X.bipush (pc := 74) (y := 20) dX10_take_74 rfl ⟨by decide, by decide⟩ ?_
    refine X.iload_n (pc := 76) (i := 1) 1 dX10_take_76 rfl rfl ?_
    refine X.imul (pc := 77) dX10_take_77 ?_
    refine X.iload_n (pc := 78) (i := 2) 2 dX10_take_78 rfl rfl ?_
    refine X.iadd (pc := 79) dX10_take_79 ?_
    obtain ⟨c1, h⟩ := h
    refine X.iaload (pc := 80) dX10_take_80 (fa_X10_23 hW) c1 ?_
    obtain ⟨c2, h⟩ := h
    refine X.iastore (pc := 81) dX10_take_81 (fa_X10_37 hW) c2 ?_
    refine X.aload_n (pc := 82) (i := 0) 0 dX10_take_82 rfl rfl ?_
    refine X.iconst (pc := 83) dX10_take_83 ⟨by decide, by decide⟩ ?_
    refine X.putI (pc := 84) dX10_take_84 fl_X10_214 rfl (fun h9 => by cases h9) (fs_X10 hW) (Or.inr (Or.inl rfl)) ?_
    refine X.iinc (pc := 87) (i := 2) (ls' := [(2, vI (w32 (x2 + 1))), (0, vR 265), (1, vI x1)]) 2 dX10_take_87 rfl (by decide) rfl ?_
    refine X.goto (pc := 90) (tgt := 52) dX10_take_90 (by decide) ?_
    exact X.pick [1, 2, 0] rfl h

theorem g_X10_board_0 {sh : List (Nat × Nat)} {ν : Nat → Nat → Option Nat} {μ : Nat → Nat → Int} {f s : Nat} {Q : xQ} (hW : WF sh ν f s) {x1 : Int} {x2 : Int}
    (h : ((¬ (1 ≤ x1 ∧ x1 ≤ 9) → Q (some (vI (-2))) sh (ν) (μ)) ∧ ((1 ≤ x1 ∧ x1 ≤ 9) → (((1 ≤ x2 ∧ x2 ≤ 9) → X mX10_boards 0 [(0, vR 265), (1, vI x1), (2, vI x2)] [] sh (ν) (μ) 0 0 (fun v sh' ν' μ' => X mX10_board 33 [] (v.toList ++ []) sh' ν' μ' 0 0 Q)) ∧ (¬ (1 ≤ x2 ∧ x2 ≤ 9) → Q (some (vI (-2))) sh (ν) (μ)))))) :
    X mX10_board 0 [(0, vR 265), (1, vI x1), (2, vI x2)] [] sh ν μ 0 0 Q := by
  refine X.iload_n (pc := 0) (i := 1) 1 dX10_board_0 rfl rfl ?_
  refine X.i2l (pc := 1) dX10_board_1 ?_
  refine X.lconst (pc := 2) (y := 1) dX10_board_2 rfl ⟨by decide, by decide⟩ ?_
  refine X.ldc2 (pc := 3) (y := 9) dX10_board_3 kc_X10_147 rfl ⟨by decide, by decide⟩ ?_
  refine X.callS (pc := 6) (vs := [vL x1, vL 1, vL 9]) (st := []) dX10_board_6 rfl okM_X10_in rfl lk_X10_124 stat_X10_in ⟨⟨by decide, by decide⟩, ⟨by decide, by decide⟩, Nat.le_of_ble_eq_true rfl⟩ (Nat.le_of_ble_eq_true rfl) (c_X10_in hW ?_)
  refine X.nrm (pc' := 9) (ls' := [(0, vR 265), (1, vI x1), (2, vI x2)]) (st' := [vI (bI (1 ≤ x1 ∧ x1 ≤ 9))]) (k' := 0) (n' := 0) rfl rfl rfl rfl rfl ?_
  refine X.if_eq (pc := 9) 24 dX10_board_9 (by decide) ⟨fun q9 => ?_, fun q9 => ?_⟩
  · have h := h.1 (bI_eq.mp q9)
    refine X.bipush (pc := 24) (y := -2) dX10_board_24 rfl ⟨by decide, by decide⟩ ?_
    exact X.iret (pc := 26) dX10_board_26 rfl (Nat.le_of_ble_eq_true rfl) (Nat.le_of_ble_eq_true rfl) h
  · have h := h.2 (bI_ne.mp q9)
    refine X.iload_n (pc := 12) (i := 2) 2 dX10_board_12 rfl rfl ?_
    refine X.i2l (pc := 13) dX10_board_13 ?_
    refine X.lconst (pc := 14) (y := 1) dX10_board_14 rfl ⟨by decide, by decide⟩ ?_
    refine X.ldc2 (pc := 15) (y := 9) dX10_board_15 kc_X10_147 rfl ⟨by decide, by decide⟩ ?_
    refine X.callS (pc := 18) (vs := [vL x2, vL 1, vL 9]) (st := []) dX10_board_18 rfl okM_X10_in rfl lk_X10_124 stat_X10_in ⟨⟨by decide, by decide⟩, ⟨by decide, by decide⟩, Nat.le_of_ble_eq_true rfl⟩ (Nat.le_of_ble_eq_true rfl) (c_X10_in hW ?_)
    refine X.nrm (pc' := 21) (ls' := [(0, vR 265), (1, vI x1), (2, vI x2)]) (st' := [vI (bI (1 ≤ x2 ∧ x2 ≤ 9))]) (k' := 0) (n' := 0) rfl rfl rfl rfl rfl ?_
    refine X.if_ne (pc := 21) 27 dX10_board_21 (by decide) ⟨fun q9 => ?_, fun q9 => ?_⟩
    · have h := h.1 (bI_ne.mp q9)
      refine X.aload_n (pc := 27) (i := 0) 0 dX10_board_27 rfl rfl ?_
      refine X.iload_n (pc := 28) (i := 1) 1 dX10_board_28 rfl rfl ?_
      refine X.iload_n (pc := 29) (i := 2) 2 dX10_board_29 rfl rfl ?_
      refine X.pick [] rfl ?_
      exact X.callV (pc := 30) (vs := [vI x1, vI x2]) (st := []) dX10_board_30 rfl okM_X10_boards rfl lk_X10_118 inst_X10_boards sel_X10_boards (fs_X10 hW) rfl ⟨⟨by decide, by decide⟩, ⟨by decide, by decide⟩, Nat.le_of_ble_eq_true rfl⟩ (Nat.le_of_ble_eq_true rfl) h
    · have h := h.2 (bI_eq.mp q9)
      refine X.bipush (pc := 24) (y := -2) dX10_board_24 rfl ⟨by decide, by decide⟩ ?_
      exact X.iret (pc := 26) dX10_board_26 rfl (Nat.le_of_ble_eq_true rfl) (Nat.le_of_ble_eq_true rfl) h

theorem g_X10_board_33 {sh : List (Nat × Nat)} {ν : Nat → Nat → Option Nat} {μ : Nat → Nat → Int} {f s : Nat} {Q : xQ} (hW : WF sh ν f s) 
    (h : Q (some (vI 1)) sh (ν) (μ)) :
    X mX10_board 33 [] [] sh ν μ 0 0 Q := by
  refine X.iconst (pc := 33) dX10_board_33 ⟨by decide, by decide⟩ ?_
  exact X.iret (pc := 34) dX10_board_34 rfl (Nat.le_of_ble_eq_true rfl) (Nat.le_of_ble_eq_true rfl) h

theorem g_X10_put__0 {sh : List (Nat × Nat)} {ν : Nat → Nat → Option Nat} {μ : Nat → Nat → Int} {f s : Nat} {Q : xQ} (hW : WF sh ν f s) {x1 : Int} {x2 : Int}
    (h : (((0 ≤ x1 ∧ x1 ≤ 80 ∧ x1 % 9 < (μ) 265 35 ∧ x1 / 9 < (μ) 265 36) → (((0 ≤ x2 ∧ x2 ≤ 25) → (0 ≤ x1 ∧ x1 < (81 : Nat)) ∧ (0 ≤ x1 ∧ x1 < (81 : Nat)) ∧ Q (some (vI ((μ) 292 (Int.toNat x1)))) sh (ν) (up (up μ 292 (Int.toNat x1) x2) 265 50 0)) ∧ (¬ (0 ≤ x2 ∧ x2 ≤ 25) → Q (some (vI (-2))) sh (ν) (μ)))) ∧ (¬ (0 ≤ x1 ∧ x1 ≤ 80 ∧ x1 % 9 < (μ) 265 35 ∧ x1 / 9 < (μ) 265 36) → Q (some (vI (-1))) sh (ν) (μ)))) :
    X mX10_put_ 0 [(0, vR 265), (1, vI x1), (2, vI x2)] [] sh ν μ 0 0 Q := by
  refine X.aload_n (pc := 0) (i := 0) 0 dX10_put__0 rfl rfl ?_
  refine X.iload_n (pc := 1) (i := 1) 1 dX10_put__1 rfl rfl ?_
  refine X.callV (pc := 2) (vs := [vI x1]) (st := []) dX10_put__2 rfl okM_X10_isPlace rfl lk_X10_226 inst_X10_isPlace sel_X10_isPlace (fs_X10 hW) rfl ⟨⟨by decide, by decide⟩, ⟨by decide, by decide⟩, Nat.le_of_ble_eq_true rfl⟩ (Nat.le_of_ble_eq_true rfl) (c_X10_isPlace hW ?_)
  refine X.nrm (pc' := 5) (ls' := [(0, vR 265), (1, vI x1), (2, vI x2)]) (st' := [vI (bI (0 ≤ x1 ∧ x1 ≤ 80 ∧ x1 % 9 < (μ) 265 35 ∧ x1 / 9 < (μ) 265 36))]) (k' := 0) (n' := 0) rfl rfl rfl rfl rfl ?_
  refine X.if_ne (pc := 5) 10 dX10_put__5 (by decide) ⟨fun q9 => ?_, fun q9 => ?_⟩
  · have h := h.1 (bI_ne.mp q9)
    refine X.iload_n (pc := 10) (i := 2) 2 dX10_put__10 rfl rfl ?_
    refine X.i2l (pc := 11) dX10_put__11 ?_
    refine X.lconst (pc := 12) (y := 0) dX10_put__12 rfl ⟨by decide, by decide⟩ ?_
    refine X.ldc2 (pc := 13) (y := 25) dX10_put__13 kc_X10_139 rfl ⟨by decide, by decide⟩ ?_
    refine X.callS (pc := 16) (vs := [vL x2, vL 0, vL 25]) (st := []) dX10_put__16 rfl okM_X10_in rfl lk_X10_124 stat_X10_in ⟨⟨by decide, by decide⟩, ⟨by decide, by decide⟩, Nat.le_of_ble_eq_true rfl⟩ (Nat.le_of_ble_eq_true rfl) (c_X10_in hW ?_)
    refine X.nrm (pc' := 19) (ls' := [(0, vR 265), (1, vI x1), (2, vI x2)]) (st' := [vI (bI (0 ≤ x2 ∧ x2 ≤ 25))]) (k' := 0) (n' := 0) rfl rfl rfl rfl rfl ?_
    refine X.if_ne (pc := 19) 25 dX10_put__19 (by decide) ⟨fun q9 => ?_, fun q9 => ?_⟩
    · have h := h.1 (bI_ne.mp q9)
      refine X.aload_n (pc := 25) (i := 0) 0 dX10_put__25 rfl rfl ?_
      refine X.getR (pc := 26) (b := 292) dX10_put__26 fl_X10_89 rfl (fs_X10 hW) (fp_X10_37 hW) ?_
      refine X.iload_n (pc := 29) (i := 1) 1 dX10_put__29 rfl rfl ?_
      obtain ⟨c1, h⟩ := h
      refine X.iaload (pc := 30) dX10_put__30 (fa_X10_37 hW) c1 ?_
      refine X.istore_n (pc := 31) (i := 3) (ls' := [(3, vI ((μ) 292 (Int.toNat x1))), (0, vR 265), (1, vI x1), (2, vI x2)]) dX10_put__31 rfl (by decide) rfl ?_
      refine X.aload_n (pc := 32) (i := 0) 1 dX10_put__32 rfl rfl ?_
      refine X.getR (pc := 33) (b := 292) dX10_put__33 fl_X10_89 rfl (fs_X10 hW) (fp_X10_37 hW) ?_
      refine X.iload_n (pc := 36) (i := 1) 2 dX10_put__36 rfl rfl ?_
      refine X.iload_n (pc := 37) (i := 2) 3 dX10_put__37 rfl rfl ?_
      obtain ⟨c2, h⟩ := h
      refine X.iastore (pc := 38) dX10_put__38 (fa_X10_37 hW) c2 ?_
      refine X.aload_n (pc := 39) (i := 0) 1 dX10_put__39 rfl rfl ?_
      refine X.iconst (pc := 40) dX10_put__40 ⟨by decide, by decide⟩ ?_
      refine X.putI (pc := 41) dX10_put__41 fl_X10_214 rfl (fun h9 => by cases h9) (fs_X10 hW) (Or.inr (Or.inl rfl)) ?_
      refine X.iload_n (pc := 44) (i := 3) 0 dX10_put__44 rfl rfl ?_
      exact X.iret (pc := 45) dX10_put__45 rfl (Nat.le_of_ble_eq_true rfl) (Nat.le_of_ble_eq_true rfl) h
    · have h := h.2 (bI_eq.mp q9)
      refine X.bipush (pc := 22) (y := -2) dX10_put__22 rfl ⟨by decide, by decide⟩ ?_
      exact X.iret (pc := 24) dX10_put__24 rfl (Nat.le_of_ble_eq_true rfl) (Nat.le_of_ble_eq_true rfl) h
  · have h := h.2 (bI_eq.mp q9)
    refine X.iconst (pc := 8) dX10_put__8 ⟨by decide, by decide⟩ ?_
    exact X.iret (pc := 9) dX10_put__9 rfl (Nat.le_of_ble_eq_true rfl) (Nat.le_of_ble_eq_true rfl) h

theorem g_X10_count_0 {sh : List (Nat × Nat)} {ν : Nat → Nat → Option Nat} {μ : Nat → Nat → Int} {f s : Nat} {Q : xQ} (hW : WF sh ν f s) {x1 : Int} {x2 : Int} {x3 : Int} {x4 : Int} {x5 : Int}
    (h : (0 ≤ x1 ∧ x1 < (40 : Nat)) ∧ X mX10_lay 0 [(0, vR 265), (1, vI x1), (2, vI x4), (3, vI x5)] [] sh (ν) (μ) 0 0 (fun v sh' ν' μ' => X mX10_count 17 [(0, vR 265), (1, vI x1), (2, vI x2), (3, vI x3), (4, vI x4), (5, vI x5), (6, vI ((μ) 266 (Int.toNat x1)))] (v.toList ++ []) sh' ν' μ' 0 0 Q)) :
    X mX10_count 0 [(0, vR 265), (1, vI x1), (2, vI x2), (3, vI x3), (4, vI x4), (5, vI x5)] [] sh ν μ 0 0 Q := by
  refine X.aload_n (pc := 0) (i := 0) 0 dX10_count_0 rfl rfl ?_
  refine X.getR (pc := 1) (b := 266) dX10_count_1 fl_X10_7 rfl (fs_X10 hW) (fp_X10_1 hW) ?_
  refine X.iload_n (pc := 4) (i := 1) 1 dX10_count_4 rfl rfl ?_
  obtain ⟨c1, h⟩ := h
  refine X.iaload (pc := 5) dX10_count_5 (fa_X10_1 hW) c1 ?_
  refine X.istore (pc := 6) (i := 6) (ls' := [(6, vI ((μ) 266 (Int.toNat x1))), (0, vR 265), (1, vI x1), (2, vI x2), (3, vI x3), (4, vI x4), (5, vI x5)]) dX10_count_6 (by decide) rfl ?_
  refine X.aload_n (pc := 8) (i := 0) 1 dX10_count_8 rfl rfl ?_
  refine X.iload_n (pc := 9) (i := 1) 2 dX10_count_9 rfl rfl ?_
  refine X.iload (pc := 10) (i := 4) 5 dX10_count_10 rfl ?_
  refine X.iload (pc := 12) (i := 5) 6 dX10_count_12 rfl ?_
  refine X.pick [1, 2, 3, 4, 5, 6, 0] rfl ?_
  exact X.callV (pc := 14) (vs := [vI x1, vI x4, vI x5]) (st := []) dX10_count_14 rfl okM_X10_lay rfl lk_X10_186 inst_X10_lay sel_X10_lay (fs_X10 hW) rfl ⟨⟨by decide, by decide⟩, ⟨by decide, by decide⟩, Nat.le_of_ble_eq_true rfl⟩ (Nat.le_of_ble_eq_true rfl) h

theorem g_X10_count_17 {sh : List (Nat × Nat)} {ν : Nat → Nat → Option Nat} {μ : Nat → Nat → Int} {f s : Nat} {Q : xQ} (hW : WF sh ν f s) {x1 : Int} {x2 : Int} {x3 : Int} {x4 : Int} {x5 : Int} {x6 : Int} {y0 : Int}
    (h : ((y0 ≠ 0 → (0 ≤ x1 ∧ x1 < (40 : Nat)) ∧ ((((μ) 267 (Int.toNat x1)) ≠ 0 → ((((μ) 265 14) ≠ 1 → (0 ≤ x1 ∧ x1 < (40 : Nat)) ∧ X mX10_count 122 [(0, vR 265), (2, vI x2), (3, vI x3), (4, vI x4), (5, vI x5), (6, vI x6), (7, vI (bI ((μ) 267 (Int.toNat x1) = 2 ∨ (μ) 267 (Int.toNat x1) = 4))), (8, vL 1), (10, vI 0)] [] sh (ν) (μ) 0 0 Q) ∧ (((μ) 265 14) = 1 → (0 ≤ (w32 ((w32 (8 * x6)) + ((μ) 280 (Int.toNat 0)))) ∧ (w32 ((w32 (8 * x6)) + ((μ) 280 (Int.toNat 0)))) < (64 : Nat)) ∧ (0 ≤ (w32 ((w32 (8 * x6)) + ((μ) 280 (Int.toNat 0)))) ∧ (w32 ((w32 (8 * x6)) + ((μ) 280 (Int.toNat 0)))) < (64 : Nat)) ∧ Q none sh (ν) (up μ 298 (Int.toNat (w32 ((w32 (8 * x6)) + ((μ) 280 (Int.toNat 0))))) (w32 (((μ) 298 (Int.toNat (w32 ((w32 (8 * x6)) + ((μ) 280 (Int.toNat 0)))))) + 1)))))) ∧ (((μ) 267 (Int.toNat x1)) = 0 → (0 ≤ x6 ∧ x6 < (8 : Nat)) ∧ ((((μ) 265 42) = 0 → X mX10_count 69 [] [vL ((μ) 297 (Int.toNat x6)), vI x6, vR 297] sh (ν) (μ) 0 0 Q) ∧ (((μ) 265 42) ≠ 0 → (0 ≤ x1 ∧ x1 < (40 : Nat)) ∧ X mX10_isAll 0 [(0, vR 265), (1, vI x2), (2, vI x3), (3, vI x4), (4, vI x5), (5, vI ((μ) 269 (Int.toNat x1)))] [] sh (ν) (μ) 0 0 (fun v sh' ν' μ' => X mX10_count 66 [] (v.toList ++ [vL ((μ) 297 (Int.toNat x6)), vI x6, vR 297]) sh' ν' μ' 0 0 Q)))))) ∧ (y0 = 0 → Q none sh (ν) (μ)))) :
    X mX10_count 17 [(0, vR 265), (1, vI x1), (2, vI x2), (3, vI x3), (4, vI x4), (5, vI x5), (6, vI x6)] [vI y0] sh ν μ 0 0 Q := by
  refine X.if_ne (pc := 17) 21 dX10_count_17 (by decide) ⟨fun q9 => ?_, fun q9 => ?_⟩
  · have h := h.1 q9
    refine X.aload_n (pc := 21) (i := 0) 0 dX10_count_21 rfl rfl ?_
    refine X.getR (pc := 22) (b := 267) dX10_count_22 fl_X10_13 rfl (fs_X10 hW) (fp_X10_2 hW) ?_
    refine X.iload_n (pc := 25) (i := 1) 1 dX10_count_25 rfl rfl ?_
    obtain ⟨c1, h⟩ := h
    refine X.iaload (pc := 26) dX10_count_26 (fa_X10_2 hW) c1 ?_
    refine X.if_ne (pc := 27) 79 dX10_count_27 (by decide) ⟨fun q9 => ?_, fun q9 => ?_⟩
    · have h := h.1 q9
      refine X.aload_n (pc := 79) (i := 0) 0 dX10_count_79 rfl rfl ?_
      refine X.getI (pc := 80) dX10_count_80 fl_X10_173 rfl (fs_X10 hW) ?_
      refine X.iconst (pc := 83) dX10_count_83 ⟨by decide, by decide⟩ ?_
      refine X.icmp_ne (pc := 84) 109 dX10_count_84 (by decide) ⟨fun q9 => ?_, fun q9 => ?_⟩
      · have h := h.1 q9
        refine X.aload_n (pc := 109) (i := 0) 0 dX10_count_109 rfl rfl ?_
        refine X.iload_n (pc := 110) (i := 1) 1 dX10_count_110 rfl rfl ?_
        refine X.pick [0, 2, 3, 4, 5, 6] rfl ?_
        obtain ⟨c2, h⟩ := h
        refine X.callV (pc := 111) (vs := [vI x1]) (st := []) dX10_count_111 rfl okM_X10_isAlongY rfl lk_X10_176 inst_X10_isAlongY sel_X10_isAlongY (fs_X10 hW) rfl ⟨⟨by decide, by decide⟩, ⟨by decide, by decide⟩, Nat.le_of_ble_eq_true rfl⟩ (Nat.le_of_ble_eq_true rfl) (c_X10_isAlongY hW c2 ?_)
        refine X.nrm (pc' := 114) (ls' := [(0, vR 265), (2, vI x2), (3, vI x3), (4, vI x4), (5, vI x5), (6, vI x6)]) (st' := [vI (bI ((μ) 267 (Int.toNat x1) = 2 ∨ (μ) 267 (Int.toNat x1) = 4))]) (k' := 0) (n' := 0) rfl rfl rfl rfl rfl ?_
        refine X.istore (pc := 114) (i := 7) (ls' := [(7, vI (bI ((μ) 267 (Int.toNat x1) = 2 ∨ (μ) 267 (Int.toNat x1) = 4))), (0, vR 265), (2, vI x2), (3, vI x3), (4, vI x4), (5, vI x5), (6, vI x6)]) dX10_count_114 (by decide) rfl ?_
        refine X.lconst (pc := 116) (y := 1) dX10_count_116 rfl ⟨by decide, by decide⟩ ?_
        refine X.lstore (pc := 117) (i := 8) (ls' := [(8, vL 1), (7, vI (bI ((μ) 267 (Int.toNat x1) = 2 ∨ (μ) 267 (Int.toNat x1) = 4))), (0, vR 265), (2, vI x2), (3, vI x3), (4, vI x4), (5, vI x5), (6, vI x6)]) dX10_count_117 (by decide) rfl ?_
        refine X.iconst (pc := 119) dX10_count_119 ⟨by decide, by decide⟩ ?_
        refine X.istore (pc := 120) (i := 10) (ls' := [(10, vI 0), (8, vL 1), (7, vI (bI ((μ) 267 (Int.toNat x1) = 2 ∨ (μ) 267 (Int.toNat x1) = 4))), (0, vR 265), (2, vI x2), (3, vI x3), (4, vI x4), (5, vI x5), (6, vI x6)]) dX10_count_120 (by decide) rfl ?_
        exact X.pick [3, 4, 5, 6, 7, 8, 2, 1, 0] rfl h
      · have h := h.2 q9
        refine X.aload_n (pc := 87) (i := 0) 0 dX10_count_87 rfl rfl ?_
        refine X.getR (pc := 88) (b := 298) dX10_count_88 fl_X10_109 rfl (fs_X10 hW) (fp_X10_44 hW) ?_
        refine X.bipush (pc := 91) (y := 8) dX10_count_91 rfl ⟨by decide, by decide⟩ ?_
        refine X.iload (pc := 93) (i := 6) 6 dX10_count_93 rfl ?_
        refine X.imul (pc := 95) dX10_count_95 ?_
        refine X.aload_n (pc := 96) (i := 0) 0 dX10_count_96 rfl rfl ?_
        refine X.getR (pc := 97) (b := 280) dX10_count_97 fl_X10_53 rfl (fs_X10 hW) (fp_X10_17 hW) ?_
        refine X.iconst (pc := 100) dX10_count_100 ⟨by decide, by decide⟩ ?_
        refine X.iaload (pc := 101) dX10_count_101 (fa_X10_17 hW) ⟨by decide, by decide⟩ ?_
        refine X.iadd (pc := 102) dX10_count_102 ?_
        refine X.dup2 (pc := 103) dX10_count_103 rfl rfl ?_
        obtain ⟨c3, h⟩ := h
        refine X.iaload (pc := 104) dX10_count_104 (fa_X10_44 hW) c3 ?_
        refine X.iconst (pc := 105) dX10_count_105 ⟨by decide, by decide⟩ ?_
        refine X.iadd (pc := 106) dX10_count_106 ?_
        obtain ⟨c4, h⟩ := h
        refine X.iastore (pc := 107) dX10_count_107 (fa_X10_44 hW) c4 ?_
        exact X.vret (pc := 108) dX10_count_108 rfl (Nat.le_of_ble_eq_true rfl) (Nat.le_of_ble_eq_true rfl) h
    · have h := h.2 q9
      refine X.aload_n (pc := 30) (i := 0) 0 dX10_count_30 rfl rfl ?_
      refine X.getR (pc := 31) (b := 297) dX10_count_31 fl_X10_106 rfl (fs_X10 hW) (fp_X10_43 hW) ?_
      refine X.iload (pc := 34) (i := 6) 6 dX10_count_34 rfl ?_
      refine X.aload_n (pc := 36) (i := 0) 0 dX10_count_36 rfl rfl ?_
      refine X.getR (pc := 37) (b := 297) dX10_count_37 fl_X10_106 rfl (fs_X10 hW) (fp_X10_43 hW) ?_
      refine X.iload (pc := 40) (i := 6) 6 dX10_count_40 rfl ?_
      obtain ⟨c5, h⟩ := h
      refine X.laload (pc := 42) dX10_count_42 (fa_X10_43 hW) c5 ?_
      refine X.aload_n (pc := 43) (i := 0) 0 dX10_count_43 rfl rfl ?_
      refine X.getI (pc := 44) dX10_count_44 fl_X10_229 rfl (fs_X10 hW) ?_
      refine X.if_eq (pc := 47) 69 dX10_count_47 (by decide) ⟨fun q9 => ?_, fun q9 => ?_⟩
      · have h := h.1 q9
        exact X.pick [] rfl h
      · have h := h.2 q9
        refine X.aload_n (pc := 50) (i := 0) 0 dX10_count_50 rfl rfl ?_
        refine X.iload_n (pc := 51) (i := 2) 2 dX10_count_51 rfl rfl ?_
        refine X.iload_n (pc := 52) (i := 3) 3 dX10_count_52 rfl rfl ?_
        refine X.iload (pc := 53) (i := 4) 4 dX10_count_53 rfl ?_
        refine X.iload (pc := 55) (i := 5) 5 dX10_count_55 rfl ?_
        refine X.aload_n (pc := 57) (i := 0) 0 dX10_count_57 rfl rfl ?_
        refine X.getR (pc := 58) (b := 269) dX10_count_58 fl_X10_19 rfl (fs_X10 hW) (fp_X10_4 hW) ?_
        refine X.iload_n (pc := 61) (i := 1) 1 dX10_count_61 rfl rfl ?_
        obtain ⟨c6, h⟩ := h
        refine X.iaload (pc := 62) dX10_count_62 (fa_X10_4 hW) c6 ?_
        refine X.pick [] rfl ?_
        exact X.callV (pc := 63) (vs := [vI x2, vI x3, vI x4, vI x5, vI ((μ) 269 (Int.toNat x1))]) (st := [vL ((μ) 297 (Int.toNat x6)), vI x6, vR 297]) dX10_count_63 rfl okM_X10_isAll rfl lk_X10_237 inst_X10_isAll sel_X10_isAll (fs_X10 hW) rfl ⟨⟨by decide, by decide⟩, ⟨by decide, by decide⟩, Nat.le_of_ble_eq_true rfl⟩ (Nat.le_of_ble_eq_true rfl) h
  · have h := h.2 q9
    exact X.vret (pc := 20) dX10_count_20 rfl (Nat.le_of_ble_eq_true rfl) (Nat.le_of_ble_eq_true rfl) h

theorem g_X10_count_66 {sh : List (Nat × Nat)} {ν : Nat → Nat → Option Nat} {μ : Nat → Nat → Int} {f s : Nat} {Q : xQ} (hW : WF sh ν f s) {q0 nq0 : Nat} (hq0 : sh[q0]? = some (1, nq0)) {y1 : Int} {y2 : Int} {y3 : Int}
    (h : ((y3 = 0 → X mX10_count 74 [] [vL 0, vL y2, vI y1, vR q0] sh (ν) (μ) 0 0 Q) ∧ (y3 ≠ 0 → X mX10_count 69 [] [vL y2, vI y1, vR q0] sh (ν) (μ) 0 0 Q))) :
    X mX10_count 66 [] [vI y3, vL y2, vI y1, vR q0] sh ν μ 0 0 Q := by
  refine X.if_eq (pc := 66) 73 dX10_count_66 (by decide) ⟨fun q9 => ?_, fun q9 => ?_⟩
  · have h := h.1 q9
    refine X.lconst (pc := 73) (y := 0) dX10_count_73 rfl ⟨by decide, by decide⟩ ?_
    exact h
  · have h := h.2 q9
    exact h

theorem g_X10_count_69 {sh : List (Nat × Nat)} {ν : Nat → Nat → Option Nat} {μ : Nat → Nat → Int} {f s : Nat} {Q : xQ} (hW : WF sh ν f s) {q0 nq0 : Nat} (hq0 : sh[q0]? = some (1, nq0)) {y1 : Int} {y2 : Int}
    (h : X mX10_count 74 [] [vL 1, vL y2, vI y1, vR q0] sh (ν) (μ) 0 0 Q) :
    X mX10_count 69 [] [vL y2, vI y1, vR q0] sh ν μ 0 0 Q := by
  refine X.lconst (pc := 69) (y := 1) dX10_count_69 rfl ⟨by decide, by decide⟩ ?_
  refine X.goto (pc := 70) (tgt := 74) dX10_count_70 (by decide) ?_
  exact h

theorem g_X10_count_74 {sh : List (Nat × Nat)} {ν : Nat → Nat → Option Nat} {μ : Nat → Nat → Int} {f s : Nat} {Q : xQ} (hW : WF sh ν f s) {q0 nq0 : Nat} (hq0 : sh[q0]? = some (1, nq0)) {y1 : Int} {y2 : Int} {y3 : Int}
    (h : (wOK y2) ∧ (wOK y3) ∧ (0 ≤ y1 ∧ y1 < (nq0 : Nat)) ∧ Q none sh (ν) (up μ q0 (Int.toNat y1) (wplus y2 y3))) :
    X mX10_count 74 [] [vL y3, vL y2, vI y1, vR q0] sh ν μ 0 0 Q := by
  obtain ⟨c1, h⟩ := h
  obtain ⟨c2, h⟩ := h
  refine X.callS (pc := 74) (vs := [vL y2, vL y3]) (st := [vI y1, vR q0]) dX10_count_74 rfl okM_X10_plus rfl lk_X10_241 stat_X10_plus ⟨⟨by decide, by decide⟩, ⟨by decide, by decide⟩, Nat.le_of_ble_eq_true rfl⟩ (Nat.le_of_ble_eq_true rfl) (c_X10_plus hW c1 c2 ?_)
  refine X.nrm (pc' := 77) (ls' := []) (st' := [vL (wplus y2 y3), vI y1, vR q0]) (k' := 0) (n' := 0) rfl rfl rfl rfl rfl ?_
  obtain ⟨c3, h⟩ := h
  refine X.lastore (pc := 77) dX10_count_77 hq0 c3 ?_
  exact X.vret (pc := 78) dX10_count_78 rfl (Nat.le_of_ble_eq_true rfl) (Nat.le_of_ble_eq_true rfl) h

theorem g_X10_count_122 {sh : List (Nat × Nat)} {ν : Nat → Nat → Option Nat} {μ : Nat → Nat → Int} {f s : Nat} {Q : xQ} (hW : WF sh ν f s) {x2 : Int} {x3 : Int} {x4 : Int} {x5 : Int} {x6 : Int} {x7 : Int} {x8 : Int} {x10 : Int}
    (h : ((((μ) 265 14) ≤ x10 → (0 ≤ x6 ∧ x6 < (8 : Nat)) ∧ (wOK ((μ) 297 (Int.toNat x6))) ∧ (wOK x8) ∧ (0 ≤ x6 ∧ x6 < (8 : Nat)) ∧ Q none sh (ν) (up μ 297 (Int.toNat x6) (wplus ((μ) 297 (Int.toNat x6)) x8))) ∧ (x10 < ((μ) 265 14) → ((x7 = 0 → (0 ≤ x10 ∧ x10 < (20 : Nat)) ∧ (0 ≤ x10 ∧ x10 < (20 : Nat)) ∧ ((0 : Int) ≤ (w32 (x2 + ((μ) 278 (Int.toNat x10)))) ∧ ((w32 (x2 + ((μ) 278 (Int.toNat x10)))) : Int) ≤ 20) ∧ ((0 : Int) ≤ x3 ∧ (x3 : Int) ≤ 20) ∧ ((1 : Int) ≤ ((μ) 279 (Int.toNat x10)) ∧ (((μ) 279 (Int.toNat x10)) : Int) ≤ 20) ∧ ((1 : Int) ≤ x5 ∧ (x5 : Int) ≤ 20) ∧ X mX10_count 185 [(0, vR 265), (2, vI x2), (3, vI x3), (4, vI x4), (5, vI x5), (6, vI x6), (7, vI x7), (8, vL x8), (10, vI x10)] [vI (plF ((μ) 265 42) (w32 (x2 + ((μ) 278 (Int.toNat x10)))) x3 ((μ) 279 (Int.toNat x10)) x5)] sh (ν) (μ) 0 0 Q) ∧ (x7 ≠ 0 → (0 ≤ x10 ∧ x10 < (20 : Nat)) ∧ (0 ≤ x10 ∧ x10 < (20 : Nat)) ∧ ((0 : Int) ≤ x2 ∧ (x2 : Int) ≤ 20) ∧ ((0 : Int) ≤ (w32 (x3 + ((μ) 278 (Int.toNat x10)))) ∧ ((w32 (x3 + ((μ) 278 (Int.toNat x10)))) : Int) ≤ 20) ∧ ((1 : Int) ≤ x4 ∧ (x4 : Int) ≤ 20) ∧ ((1 : Int) ≤ ((μ) 279 (Int.toNat x10)) ∧ (((μ) 279 (Int.toNat x10)) : Int) ≤ 20) ∧ X mX10_count 185 [(0, vR 265), (2, vI x2), (3, vI x3), (4, vI x4), (5, vI x5), (6, vI x6), (7, vI x7), (8, vL x8), (10, vI x10)] [vI (plF ((μ) 265 42) x2 (w32 (x3 + ((μ) 278 (Int.toNat x10)))) x4 ((μ) 279 (Int.toNat x10)))] sh (ν) (μ) 0 0 Q))))) :
    X mX10_count 122 [(0, vR 265), (2, vI x2), (3, vI x3), (4, vI x4), (5, vI x5), (6, vI x6), (7, vI x7), (8, vL x8), (10, vI x10)] [] sh ν μ 0 0 Q := by
  refine X.iload (pc := 122) (i := 10) 8 dX10_count_122 rfl ?_
  refine X.aload_n (pc := 124) (i := 0) 0 dX10_count_124 rfl rfl ?_
  refine X.getI (pc := 125) dX10_count_125 fl_X10_173 rfl (fs_X10 hW) ?_
  refine X.icmp_ge (pc := 128) 215 dX10_count_128 (by decide) ⟨fun q9 => ?_, fun q9 => ?_⟩
  · have h := h.1 q9
    refine X.aload_n (pc := 215) (i := 0) 0 dX10_count_215 rfl rfl ?_
    refine X.getR (pc := 216) (b := 297) dX10_count_216 fl_X10_106 rfl (fs_X10 hW) (fp_X10_43 hW) ?_
    refine X.iload (pc := 219) (i := 6) 5 dX10_count_219 rfl ?_
    refine X.aload_n (pc := 221) (i := 0) 0 dX10_count_221 rfl rfl ?_
    refine X.getR (pc := 222) (b := 297) dX10_count_222 fl_X10_106 rfl (fs_X10 hW) (fp_X10_43 hW) ?_
    refine X.iload (pc := 225) (i := 6) 5 dX10_count_225 rfl ?_
    obtain ⟨c1, h⟩ := h
    refine X.laload (pc := 227) dX10_count_227 (fa_X10_43 hW) c1 ?_
    refine X.lload (pc := 228) (i := 8) 7 dX10_count_228 rfl ?_
    refine X.pick [] rfl ?_
    obtain ⟨c2, h⟩ := h
    obtain ⟨c3, h⟩ := h
    refine X.callS (pc := 230) (vs := [vL ((μ) 297 (Int.toNat x6)), vL x8]) (st := [vI x6, vR 297]) dX10_count_230 rfl okM_X10_plus rfl lk_X10_241 stat_X10_plus ⟨⟨by decide, by decide⟩, ⟨by decide, by decide⟩, Nat.le_of_ble_eq_true rfl⟩ (Nat.le_of_ble_eq_true rfl) (c_X10_plus hW c2 c3 ?_)
    refine X.nrm (pc' := 233) (ls' := []) (st' := [vL (wplus ((μ) 297 (Int.toNat x6)) x8), vI x6, vR 297]) (k' := 0) (n' := 0) rfl rfl rfl rfl rfl ?_
    obtain ⟨c4, h⟩ := h
    refine X.lastore (pc := 233) dX10_count_233 (fa_X10_43 hW) c4 ?_
    exact X.vret (pc := 234) dX10_count_234 rfl (Nat.le_of_ble_eq_true rfl) (Nat.le_of_ble_eq_true rfl) h
  · have h := h.2 q9
    refine X.iload (pc := 131) (i := 7) 6 dX10_count_131 rfl ?_
    refine X.if_eq (pc := 133) 162 dX10_count_133 (by decide) ⟨fun q9 => ?_, fun q9 => ?_⟩
    · have h := h.1 q9
      refine X.aload_n (pc := 162) (i := 0) 0 dX10_count_162 rfl rfl ?_
      refine X.iload_n (pc := 163) (i := 2) 1 dX10_count_163 rfl rfl ?_
      refine X.aload_n (pc := 164) (i := 0) 0 dX10_count_164 rfl rfl ?_
      refine X.getR (pc := 165) (b := 278) dX10_count_165 fl_X10_47 rfl (fs_X10 hW) (fp_X10_15 hW) ?_
      refine X.iload (pc := 168) (i := 10) 8 dX10_count_168 rfl ?_
      obtain ⟨c5, h⟩ := h
      refine X.iaload (pc := 170) dX10_count_170 (fa_X10_15 hW) c5 ?_
      refine X.iadd (pc := 171) dX10_count_171 ?_
      refine X.iload_n (pc := 172) (i := 3) 2 dX10_count_172 rfl rfl ?_
      refine X.aload_n (pc := 173) (i := 0) 0 dX10_count_173 rfl rfl ?_
      refine X.getR (pc := 174) (b := 279) dX10_count_174 fl_X10_50 rfl (fs_X10 hW) (fp_X10_16 hW) ?_
      refine X.iload (pc := 177) (i := 10) 8 dX10_count_177 rfl ?_
      obtain ⟨c6, h⟩ := h
      refine X.iaload (pc := 179) dX10_count_179 (fa_X10_16 hW) c6 ?_
      refine X.iload (pc := 180) (i := 5) 4 dX10_count_180 rfl ?_
      obtain ⟨c7, h⟩ := h
      obtain ⟨c8, h⟩ := h
      obtain ⟨c9, h⟩ := h
      obtain ⟨c10, h⟩ := h
      refine X.callV (pc := 182) (vs := [vI (w32 (x2 + ((μ) 278 (Int.toNat x10)))), vI x3, vI ((μ) 279 (Int.toNat x10)), vI x5]) (st := []) dX10_count_182 rfl okM_X10_place rfl lk_X10_245 inst_X10_place sel_X10_place (fs_X10 hW) rfl ⟨⟨by decide, by decide⟩, ⟨by decide, by decide⟩, Nat.le_of_ble_eq_true rfl⟩ (Nat.le_of_ble_eq_true rfl) (c_X10_place hW c7 c8 c9 c10 ?_)
      refine X.nrm (pc' := 185) (ls' := [(0, vR 265), (2, vI x2), (3, vI x3), (4, vI x4), (5, vI x5), (6, vI x6), (7, vI x7), (8, vL x8), (10, vI x10)]) (st' := [vI (plF ((μ) 265 42) (w32 (x2 + ((μ) 278 (Int.toNat x10)))) x3 ((μ) 279 (Int.toNat x10)) x5)]) (k' := 0) (n' := 0) rfl rfl rfl rfl rfl ?_
      exact h
    · have h := h.2 q9
      refine X.aload_n (pc := 136) (i := 0) 0 dX10_count_136 rfl rfl ?_
      refine X.iload_n (pc := 137) (i := 2) 1 dX10_count_137 rfl rfl ?_
      refine X.iload_n (pc := 138) (i := 3) 2 dX10_count_138 rfl rfl ?_
      refine X.aload_n (pc := 139) (i := 0) 0 dX10_count_139 rfl rfl ?_
      refine X.getR (pc := 140) (b := 278) dX10_count_140 fl_X10_47 rfl (fs_X10 hW) (fp_X10_15 hW) ?_
      refine X.iload (pc := 143) (i := 10) 8 dX10_count_143 rfl ?_
      obtain ⟨c11, h⟩ := h
      refine X.iaload (pc := 145) dX10_count_145 (fa_X10_15 hW) c11 ?_
      refine X.iadd (pc := 146) dX10_count_146 ?_
      refine X.iload (pc := 147) (i := 4) 3 dX10_count_147 rfl ?_
      refine X.aload_n (pc := 149) (i := 0) 0 dX10_count_149 rfl rfl ?_
      refine X.getR (pc := 150) (b := 279) dX10_count_150 fl_X10_50 rfl (fs_X10 hW) (fp_X10_16 hW) ?_
      refine X.iload (pc := 153) (i := 10) 8 dX10_count_153 rfl ?_
      obtain ⟨c12, h⟩ := h
      refine X.iaload (pc := 155) dX10_count_155 (fa_X10_16 hW) c12 ?_
      obtain ⟨c13, h⟩ := h
      obtain ⟨c14, h⟩ := h
      obtain ⟨c15, h⟩ := h
      obtain ⟨c16, h⟩ := h
      refine X.callV (pc := 156) (vs := [vI x2, vI (w32 (x3 + ((μ) 278 (Int.toNat x10)))), vI x4, vI ((μ) 279 (Int.toNat x10))]) (st := []) dX10_count_156 rfl okM_X10_place rfl lk_X10_245 inst_X10_place sel_X10_place (fs_X10 hW) rfl ⟨⟨by decide, by decide⟩, ⟨by decide, by decide⟩, Nat.le_of_ble_eq_true rfl⟩ (Nat.le_of_ble_eq_true rfl) (c_X10_place hW c13 c14 c15 c16 ?_)
      refine X.nrm (pc' := 159) (ls' := [(0, vR 265), (2, vI x2), (3, vI x3), (4, vI x4), (5, vI x5), (6, vI x6), (7, vI x7), (8, vL x8), (10, vI x10)]) (st' := [vI (plF ((μ) 265 42) x2 (w32 (x3 + ((μ) 278 (Int.toNat x10)))) x4 ((μ) 279 (Int.toNat x10)))]) (k' := 0) (n' := 0) rfl rfl rfl rfl rfl ?_
      refine X.goto (pc := 159) (tgt := 185) dX10_count_159 (by decide) ?_
      exact h

theorem g_X10_count_185 {sh : List (Nat × Nat)} {ν : Nat → Nat → Option Nat} {μ : Nat → Nat → Int} {f s : Nat} {Q : xQ} (hW : WF sh ν f s) {x2 : Int} {x3 : Int} {x4 : Int} {x5 : Int} {x6 : Int} {x7 : Int} {x8 : Int} {x10 : Int} {y0 : Int}
    (h : (0 ≤ x10 ∧ x10 < (20 : Nat)) ∧ (0 ≤ (w32 (y0 + ((μ) 280 (Int.toNat x10)))) ∧ (w32 (y0 + ((μ) 280 (Int.toNat x10)))) < (55688 : Nat)) ∧ (wOK x8) ∧ (wOK ((μ) 293 (Int.toNat (w32 (y0 + ((μ) 280 (Int.toNat x10))))))) ∧ X mX10_count 122 [(0, vR 265), (2, vI x2), (3, vI x3), (4, vI x4), (5, vI x5), (6, vI x6), (7, vI x7), (8, vL (wmult x8 ((μ) 293 (Int.toNat (w32 (y0 + ((μ) 280 (Int.toNat x10)))))))), (10, vI (w32 (x10 + 1)))] [] sh (ν) (μ) 0 0 Q) :
    X mX10_count 185 [(0, vR 265), (2, vI x2), (3, vI x3), (4, vI x4), (5, vI x5), (6, vI x6), (7, vI x7), (8, vL x8), (10, vI x10)] [vI y0] sh ν μ 0 0 Q := by
  refine X.istore (pc := 185) (i := 11) (ls' := [(11, vI y0), (0, vR 265), (2, vI x2), (3, vI x3), (4, vI x4), (5, vI x5), (6, vI x6), (7, vI x7), (8, vL x8), (10, vI x10)]) dX10_count_185 (by decide) rfl ?_
  refine X.lload (pc := 187) (i := 8) 8 dX10_count_187 rfl ?_
  refine X.aload_n (pc := 189) (i := 0) 1 dX10_count_189 rfl rfl ?_
  refine X.getR (pc := 190) (b := 293) dX10_count_190 fl_X10_93 rfl (fs_X10 hW) (fp_X10_38 hW) ?_
  refine X.iload (pc := 193) (i := 11) 0 dX10_count_193 rfl ?_
  refine X.aload_n (pc := 195) (i := 0) 1 dX10_count_195 rfl rfl ?_
  refine X.getR (pc := 196) (b := 280) dX10_count_196 fl_X10_53 rfl (fs_X10 hW) (fp_X10_17 hW) ?_
  refine X.iload (pc := 199) (i := 10) 9 dX10_count_199 rfl ?_
  obtain ⟨c1, h⟩ := h
  refine X.iaload (pc := 201) dX10_count_201 (fa_X10_17 hW) c1 ?_
  refine X.iadd (pc := 202) dX10_count_202 ?_
  obtain ⟨c2, h⟩ := h
  refine X.laload (pc := 203) dX10_count_203 (fa_X10_38 hW) c2 ?_
  refine X.pick [1, 2, 3, 4, 5, 6, 7, 9] rfl ?_
  obtain ⟨c3, h⟩ := h
  obtain ⟨c4, h⟩ := h
  refine X.callS (pc := 204) (vs := [vL x8, vL ((μ) 293 (Int.toNat (w32 (y0 + ((μ) 280 (Int.toNat x10))))))]) (st := []) dX10_count_204 rfl okM_X10_mult rfl lk_X10_248 stat_X10_mult ⟨⟨by decide, by decide⟩, ⟨by decide, by decide⟩, Nat.le_of_ble_eq_true rfl⟩ (Nat.le_of_ble_eq_true rfl) (c_X10_mult hW c3 c4 ?_)
  refine X.nrm (pc' := 207) (ls' := [(0, vR 265), (2, vI x2), (3, vI x3), (4, vI x4), (5, vI x5), (6, vI x6), (7, vI x7), (10, vI x10)]) (st' := [vL (wmult x8 ((μ) 293 (Int.toNat (w32 (y0 + ((μ) 280 (Int.toNat x10)))))))]) (k' := 0) (n' := 0) rfl rfl rfl rfl rfl ?_
  refine X.lstore (pc := 207) (i := 8) (ls' := [(8, vL (wmult x8 ((μ) 293 (Int.toNat (w32 (y0 + ((μ) 280 (Int.toNat x10)))))))), (0, vR 265), (2, vI x2), (3, vI x3), (4, vI x4), (5, vI x5), (6, vI x6), (7, vI x7), (10, vI x10)]) dX10_count_207 (by decide) rfl ?_
  refine X.iinc (pc := 209) (i := 10) (ls' := [(10, vI (w32 (x10 + 1))), (8, vL (wmult x8 ((μ) 293 (Int.toNat (w32 (y0 + ((μ) 280 (Int.toNat x10)))))))), (0, vR 265), (2, vI x2), (3, vI x3), (4, vI x4), (5, vI x5), (6, vI x6), (7, vI x7)]) 8 dX10_count_209 rfl (by decide) rfl ?_
  refine X.goto (pc := 212) (tgt := 122) dX10_count_212 (by decide) ?_
  exact X.pick [2, 3, 4, 5, 6, 7, 8, 1, 0] rfl h

theorem g_X10_sum_0 {sh : List (Nat × Nat)} {ν : Nat → Nat → Option Nat} {μ : Nat → Nat → Int} {f s : Nat} {Q : xQ} (hW : WF sh ν f s) {x1 : Int}
    (h : X mX10_findMade 0 [(0, vR 265)] [] sh (ν) (μ) 0 0 (fun v sh' ν' μ' => X mX10_sum 4 [(0, vR 265), (1, vI x1)] (v.toList ++ []) sh' ν' μ' 0 0 Q)) :
    X mX10_sum 0 [(0, vR 265), (1, vI x1)] [] sh ν μ 0 0 Q := by
  refine X.aload_n (pc := 0) (i := 0) 0 dX10_sum_0 rfl rfl ?_
  exact X.callV (pc := 1) (vs := []) (st := []) dX10_sum_1 rfl okM_X10_findMade rfl lk_X10_251 inst_X10_findMade sel_X10_findMade (fs_X10 hW) rfl ⟨⟨by decide, by decide⟩, ⟨by decide, by decide⟩, Nat.le_of_ble_eq_true rfl⟩ (Nat.le_of_ble_eq_true rfl) h

theorem g_X10_sum_4 {sh : List (Nat × Nat)} {ν : Nat → Nat → Option Nat} {μ : Nat → Nat → Int} {f s : Nat} {Q : xQ} (hW : WF sh ν f s) {x1 : Int}
    (h : X mX10_sum 6 [(0, vR 265), (1, vI x1), (2, vI 0)] [] sh (ν) (μ) 0 0 Q) :
    X mX10_sum 4 [(0, vR 265), (1, vI x1)] [] sh ν μ 0 0 Q := by
  refine X.iconst (pc := 4) dX10_sum_4 ⟨by decide, by decide⟩ ?_
  refine X.istore_n (pc := 5) (i := 2) (ls' := [(2, vI 0), (0, vR 265), (1, vI x1)]) dX10_sum_5 rfl (by decide) rfl ?_
  exact X.pick [1, 2, 0] rfl h

theorem g_X10_sum_6 {sh : List (Nat × Nat)} {ν : Nat → Nat → Option Nat} {μ : Nat → Nat → Int} {f s : Nat} {Q : xQ} (hW : WF sh ν f s) {x1 : Int} {x2 : Int}
    (h : ((8 ≤ x2 → X mX10_sum 52 [(0, vR 265), (1, vI x1), (2, vI 0)] [] sh (ν) (μ) 0 0 Q) ∧ (x2 < 8 → (0 ≤ x2 ∧ x2 < (8 : Nat)) ∧ ((((μ) 299 (Int.toNat x2)) = 0 → X mX10_sum 42 [(0, vR 265), (1, vI x1), (2, vI x2)] [vI (w32 (x1 + x2)), vR 293] sh (ν) (μ) 0 0 Q) ∧ (((μ) 299 (Int.toNat x2)) ≠ 0 → X mX10_isEndless 0 [(0, vR 265), (1, vI x2)] [] sh (ν) (μ) 0 0 (fun v sh' ν' μ' => X mX10_sum 33 [(0, vR 265), (1, vI x1), (2, vI x2)] (v.toList ++ [vI (w32 (x1 + x2)), vR 293]) sh' ν' μ' 0 0 Q)))))) :
    X mX10_sum 6 [(0, vR 265), (1, vI x1), (2, vI x2)] [] sh ν μ 0 0 Q := by
  refine X.iload_n (pc := 6) (i := 2) 2 dX10_sum_6 rfl rfl ?_
  refine X.bipush (pc := 7) (y := 8) dX10_sum_7 rfl ⟨by decide, by decide⟩ ?_
  refine X.icmp_ge (pc := 9) 50 dX10_sum_9 (by decide) ⟨fun q9 => ?_, fun q9 => ?_⟩
  · have h := h.1 q9
    refine X.iconst (pc := 50) dX10_sum_50 ⟨by decide, by decide⟩ ?_
    refine X.istore_n (pc := 51) (i := 2) (ls' := [(2, vI 0), (0, vR 265), (1, vI x1)]) dX10_sum_51 rfl (by decide) rfl ?_
    exact X.pick [1, 2, 0] rfl h
  · have h := h.2 q9
    refine X.aload_n (pc := 12) (i := 0) 0 dX10_sum_12 rfl rfl ?_
    refine X.getR (pc := 13) (b := 293) dX10_sum_13 fl_X10_93 rfl (fs_X10 hW) (fp_X10_38 hW) ?_
    refine X.iload_n (pc := 16) (i := 1) 1 dX10_sum_16 rfl rfl ?_
    refine X.iload_n (pc := 17) (i := 2) 2 dX10_sum_17 rfl rfl ?_
    refine X.iadd (pc := 18) dX10_sum_18 ?_
    refine X.aload_n (pc := 19) (i := 0) 0 dX10_sum_19 rfl rfl ?_
    refine X.getR (pc := 20) (b := 299) dX10_sum_20 fl_X10_112 rfl (fs_X10 hW) (fp_X10_45 hW) ?_
    refine X.iload_n (pc := 23) (i := 2) 2 dX10_sum_23 rfl rfl ?_
    obtain ⟨c1, h⟩ := h
    refine X.zaload (pc := 24) dX10_sum_24 (fa_X10_45 hW) c1 ?_
    refine X.if_eq (pc := 25) 42 dX10_sum_25 (by decide) ⟨fun q9 => ?_, fun q9 => ?_⟩
    · have h := h.1 q9
      exact h
    · have h := h.2 q9
      refine X.aload_n (pc := 28) (i := 0) 0 dX10_sum_28 rfl rfl ?_
      refine X.iload_n (pc := 29) (i := 2) 2 dX10_sum_29 rfl rfl ?_
      exact X.callV (pc := 30) (vs := [vI x2]) (st := [vI (w32 (x1 + x2)), vR 293]) dX10_sum_30 rfl okM_X10_isEndless rfl lk_X10_254 inst_X10_isEndless sel_X10_isEndless (fs_X10 hW) rfl ⟨⟨by decide, by decide⟩, ⟨by decide, by decide⟩, Nat.le_of_ble_eq_true rfl⟩ (Nat.le_of_ble_eq_true rfl) h

theorem g_X10_sum_33 {sh : List (Nat × Nat)} {ν : Nat → Nat → Option Nat} {μ : Nat → Nat → Int} {f s : Nat} {Q : xQ} (hW : WF sh ν f s) {x1 : Int} {x2 : Int} {q0 nq0 : Nat} (hq0 : sh[q0]? = some (1, nq0)) {y1 : Int} {y2 : Int}
    (h : ((y2 = 0 → X mX10_sum 42 [(0, vR 265), (1, vI x1), (2, vI x2)] [vI y1, vR q0] sh (ν) (μ) 0 0 Q) ∧ (y2 ≠ 0 → X mX10_sum 43 [(0, vR 265), (1, vI x1), (2, vI x2)] [vL (-10), vI y1, vR q0] sh (ν) (μ) 0 0 Q))) :
    X mX10_sum 33 [(0, vR 265), (1, vI x1), (2, vI x2)] [vI y2, vI y1, vR q0] sh ν μ 0 0 Q := by
  refine X.if_eq (pc := 33) 42 dX10_sum_33 (by decide) ⟨fun q9 => ?_, fun q9 => ?_⟩
  · have h := h.1 q9
    exact h
  · have h := h.2 q9
    refine X.ldc2 (pc := 36) (y := -10) dX10_sum_36 kc_X10_233 rfl ⟨by decide, by decide⟩ ?_
    refine X.goto (pc := 39) (tgt := 43) dX10_sum_39 (by decide) ?_
    exact h

theorem g_X10_sum_42 {sh : List (Nat × Nat)} {ν : Nat → Nat → Option Nat} {μ : Nat → Nat → Int} {f s : Nat} {Q : xQ} (hW : WF sh ν f s) {x1 : Int} {x2 : Int} {q0 nq0 : Nat} (hq0 : sh[q0]? = some (1, nq0)) {y1 : Int}
    (h : X mX10_sum 43 [(0, vR 265), (1, vI x1), (2, vI x2)] [vL 0, vI y1, vR q0] sh (ν) (μ) 0 0 Q) :
    X mX10_sum 42 [(0, vR 265), (1, vI x1), (2, vI x2)] [vI y1, vR q0] sh ν μ 0 0 Q := by
  refine X.lconst (pc := 42) (y := 0) dX10_sum_42 rfl ⟨by decide, by decide⟩ ?_
  exact h

theorem g_X10_sum_43 {sh : List (Nat × Nat)} {ν : Nat → Nat → Option Nat} {μ : Nat → Nat → Int} {f s : Nat} {Q : xQ} (hW : WF sh ν f s) {x1 : Int} {x2 : Int} {q0 nq0 : Nat} (hq0 : sh[q0]? = some (1, nq0)) {y1 : Int} {y2 : Int}
    (h : (0 ≤ y1 ∧ y1 < (nq0 : Nat)) ∧ X mX10_sum 6 [(0, vR 265), (1, vI x1), (2, vI (w32 (x2 + 1)))] [] sh (ν) (up μ q0 (Int.toNat y1) y2) 0 0 Q) :
    X mX10_sum 43 [(0, vR 265), (1, vI x1), (2, vI x2)] [vL y2, vI y1, vR q0] sh ν μ 0 0 Q := by
  obtain ⟨c1, h⟩ := h
  refine X.lastore (pc := 43) dX10_sum_43 hq0 c1 ?_
  refine X.iinc (pc := 44) (i := 2) (ls' := [(2, vI (w32 (x2 + 1))), (0, vR 265), (1, vI x1)]) 2 dX10_sum_44 rfl (by decide) rfl ?_
  refine X.goto (pc := 47) (tgt := 6) dX10_sum_47 (by decide) ?_
  exact X.pick [1, 2, 0] rfl h

theorem g_X10_sum_52 {sh : List (Nat × Nat)} {ν : Nat → Nat → Option Nat} {μ : Nat → Nat → Int} {f s : Nat} {Q : xQ} (hW : WF sh ν f s) {x1 : Int} {x2 : Int}
    (h : ((8 ≤ x2 → Q none sh (ν) (μ)) ∧ (x2 < 8 → X mX10_sum 60 [(0, vR 265), (1, vI x1), (2, vI x2), (3, vI 0)] [] sh (ν) (μ) 0 0 Q))) :
    X mX10_sum 52 [(0, vR 265), (1, vI x1), (2, vI x2)] [] sh ν μ 0 0 Q := by
  refine X.iload_n (pc := 52) (i := 2) 2 dX10_sum_52 rfl rfl ?_
  refine X.bipush (pc := 53) (y := 8) dX10_sum_53 rfl ⟨by decide, by decide⟩ ?_
  refine X.icmp_ge (pc := 55) 166 dX10_sum_55 (by decide) ⟨fun q9 => ?_, fun q9 => ?_⟩
  · have h := h.1 q9
    exact X.vret (pc := 166) dX10_sum_166 rfl (Nat.le_of_ble_eq_true rfl) (Nat.le_of_ble_eq_true rfl) h
  · have h := h.2 q9
    refine X.iconst (pc := 58) dX10_sum_58 ⟨by decide, by decide⟩ ?_
    refine X.istore_n (pc := 59) (i := 3) (ls' := [(3, vI 0), (0, vR 265), (1, vI x1), (2, vI x2)]) dX10_sum_59 rfl (by decide) rfl ?_
    exact X.pick [1, 2, 3, 0] rfl h

theorem g_X10_sum_60 {sh : List (Nat × Nat)} {ν : Nat → Nat → Option Nat} {μ : Nat → Nat → Int} {f s : Nat} {Q : xQ} (hW : WF sh ν f s) {x1 : Int} {x2 : Int} {x3 : Int}
    (h : ((8 ≤ x3 → X mX10_sum 52 [(0, vR 265), (1, vI x1), (2, vI (w32 (x2 + 1)))] [] sh (ν) (μ) 0 0 Q) ∧ (x3 < 8 → (0 ≤ (w32 (x1 + x3)) ∧ (w32 (x1 + x3)) < (55688 : Nat)) ∧ ((((μ) 293 (Int.toNat (w32 (x1 + x3)))) < 0 → X mX10_sum 154 [(0, vR 265), (1, vI x1), (2, vI x2), (3, vI x3)] [] sh (ν) (μ) 0 0 Q) ∧ (0 ≤ ((μ) 293 (Int.toNat (w32 (x1 + x3)))) → (0 ≤ x3 ∧ x3 < (8 : Nat)) ∧ ((((μ) 299 (Int.toNat x3)) = 0 → X mX10_sum 154 [(0, vR 265), (1, vI x1), (2, vI x2), (3, vI x3)] [] sh (ν) (μ) 0 0 Q) ∧ (((μ) 299 (Int.toNat x3)) ≠ 0 → (0 ≤ x3 ∧ x3 < (8 : Nat)) ∧ X mX10_sum 99 [(0, vR 265), (1, vI x1), (2, vI x2), (3, vI x3), (4, vL ((μ) 297 (Int.toNat x3))), (6, vI 0)] [] sh (ν) (μ) 0 0 Q))))))) :
    X mX10_sum 60 [(0, vR 265), (1, vI x1), (2, vI x2), (3, vI x3)] [] sh ν μ 0 0 Q := by
  refine X.iload_n (pc := 60) (i := 3) 3 dX10_sum_60 rfl rfl ?_
  refine X.bipush (pc := 61) (y := 8) dX10_sum_61 rfl ⟨by decide, by decide⟩ ?_
  refine X.icmp_ge (pc := 63) 160 dX10_sum_63 (by decide) ⟨fun q9 => ?_, fun q9 => ?_⟩
  · have h := h.1 q9
    refine X.iinc (pc := 160) (i := 2) (ls' := [(2, vI (w32 (x2 + 1))), (0, vR 265), (1, vI x1), (3, vI x3)]) 2 dX10_sum_160 rfl (by decide) rfl ?_
    refine X.goto (pc := 163) (tgt := 52) dX10_sum_163 (by decide) ?_
    exact X.pick [1, 2, 0] rfl h
  · have h := h.2 q9
    refine X.aload_n (pc := 66) (i := 0) 0 dX10_sum_66 rfl rfl ?_
    refine X.getR (pc := 67) (b := 293) dX10_sum_67 fl_X10_93 rfl (fs_X10 hW) (fp_X10_38 hW) ?_
    refine X.iload_n (pc := 70) (i := 1) 1 dX10_sum_70 rfl rfl ?_
    refine X.iload_n (pc := 71) (i := 3) 3 dX10_sum_71 rfl rfl ?_
    refine X.iadd (pc := 72) dX10_sum_72 ?_
    obtain ⟨c1, h⟩ := h
    refine X.laload (pc := 73) dX10_sum_73 (fa_X10_38 hW) c1 ?_
    refine X.lconst (pc := 74) (y := 0) dX10_sum_74 rfl ⟨by decide, by decide⟩ ?_
    refine X.lcmp (pc := 75) dX10_sum_75 ?_
    refine X.if_lt (pc := 76) 154 dX10_sum_76 (by decide) ⟨fun q9 => ?_, fun q9 => ?_⟩
    · have h := h.1 (xl_lt.mp q9)
      exact h
    · have h := h.2 (xl_ge.mp q9)
      refine X.aload_n (pc := 79) (i := 0) 0 dX10_sum_79 rfl rfl ?_
      refine X.getR (pc := 80) (b := 299) dX10_sum_80 fl_X10_112 rfl (fs_X10 hW) (fp_X10_45 hW) ?_
      refine X.iload_n (pc := 83) (i := 3) 3 dX10_sum_83 rfl rfl ?_
      obtain ⟨c2, h⟩ := h
      refine X.zaload (pc := 84) dX10_sum_84 (fa_X10_45 hW) c2 ?_
      refine X.if_eq (pc := 85) 154 dX10_sum_85 (by decide) ⟨fun q9 => ?_, fun q9 => ?_⟩
      · have h := h.1 q9
        exact h
      · have h := h.2 q9
        refine X.aload_n (pc := 88) (i := 0) 0 dX10_sum_88 rfl rfl ?_
        refine X.getR (pc := 89) (b := 297) dX10_sum_89 fl_X10_106 rfl (fs_X10 hW) (fp_X10_43 hW) ?_
        refine X.iload_n (pc := 92) (i := 3) 3 dX10_sum_92 rfl rfl ?_
        obtain ⟨c3, h⟩ := h
        refine X.laload (pc := 93) dX10_sum_93 (fa_X10_43 hW) c3 ?_
        refine X.lstore (pc := 94) (i := 4) (ls' := [(4, vL ((μ) 297 (Int.toNat x3))), (0, vR 265), (1, vI x1), (2, vI x2), (3, vI x3)]) dX10_sum_94 (by decide) rfl ?_
        refine X.iconst (pc := 96) dX10_sum_96 ⟨by decide, by decide⟩ ?_
        refine X.istore (pc := 97) (i := 6) (ls' := [(6, vI 0), (4, vL ((μ) 297 (Int.toNat x3))), (0, vR 265), (1, vI x1), (2, vI x2), (3, vI x3)]) dX10_sum_97 (by decide) rfl ?_
        exact X.pick [2, 3, 4, 5, 1, 0] rfl h

theorem g_X10_sum_99 {sh : List (Nat × Nat)} {ν : Nat → Nat → Option Nat} {μ : Nat → Nat → Int} {f s : Nat} {Q : xQ} (hW : WF sh ν f s) {x1 : Int} {x2 : Int} {x3 : Int} {x4 : Int} {x6 : Int}
    (h : ((8 ≤ x6 → (0 ≤ (w32 (x1 + x3)) ∧ (w32 (x1 + x3)) < (55688 : Nat)) ∧ X mX10_sum 154 [(0, vR 265), (1, vI x1), (2, vI x2), (3, vI x3)] [] sh (ν) (up μ 293 (Int.toNat (w32 (x1 + x3))) x4) 0 0 Q) ∧ (x6 < 8 → (0 ≤ (w32 ((w32 (8 * x3)) + x6)) ∧ (w32 ((w32 (8 * x3)) + x6)) < (64 : Nat)) ∧ (0 ≤ (w32 (x1 + x6)) ∧ (w32 (x1 + x6)) < (55688 : Nat)) ∧ (wOK ((μ) 298 (Int.toNat (w32 ((w32 (8 * x3)) + x6))))) ∧ (wOK ((μ) 293 (Int.toNat (w32 (x1 + x6))))) ∧ (wOK x4) ∧ (wOK (wmult ((μ) 298 (Int.toNat (w32 ((w32 (8 * x3)) + x6)))) ((μ) 293 (Int.toNat (w32 (x1 + x6)))))) ∧ X mX10_sum 99 [(0, vR 265), (1, vI x1), (2, vI x2), (3, vI x3), (4, vL (wplus x4 (wmult ((μ) 298 (Int.toNat (w32 ((w32 (8 * x3)) + x6)))) ((μ) 293 (Int.toNat (w32 (x1 + x6))))))), (6, vI (w32 (x6 + 1)))] [] sh (ν) (μ) 0 0 Q))) :
    X mX10_sum 99 [(0, vR 265), (1, vI x1), (2, vI x2), (3, vI x3), (4, vL x4), (6, vI x6)] [] sh ν μ 0 0 Q := by
  refine X.iload (pc := 99) (i := 6) 5 dX10_sum_99 rfl ?_
  refine X.bipush (pc := 101) (y := 8) dX10_sum_101 rfl ⟨by decide, by decide⟩ ?_
  refine X.icmp_ge (pc := 103) 144 dX10_sum_103 (by decide) ⟨fun q9 => ?_, fun q9 => ?_⟩
  · have h := h.1 q9
    refine X.aload_n (pc := 144) (i := 0) 0 dX10_sum_144 rfl rfl ?_
    refine X.getR (pc := 145) (b := 293) dX10_sum_145 fl_X10_93 rfl (fs_X10 hW) (fp_X10_38 hW) ?_
    refine X.iload_n (pc := 148) (i := 1) 1 dX10_sum_148 rfl rfl ?_
    refine X.iload_n (pc := 149) (i := 3) 3 dX10_sum_149 rfl rfl ?_
    refine X.iadd (pc := 150) dX10_sum_150 ?_
    refine X.lload (pc := 151) (i := 4) 4 dX10_sum_151 rfl ?_
    obtain ⟨c1, h⟩ := h
    refine X.lastore (pc := 153) dX10_sum_153 (fa_X10_38 hW) c1 ?_
    exact X.pick [0, 1, 2, 3] rfl h
  · have h := h.2 q9
    refine X.lload (pc := 106) (i := 4) 4 dX10_sum_106 rfl ?_
    refine X.aload_n (pc := 108) (i := 0) 0 dX10_sum_108 rfl rfl ?_
    refine X.getR (pc := 109) (b := 298) dX10_sum_109 fl_X10_109 rfl (fs_X10 hW) (fp_X10_44 hW) ?_
    refine X.bipush (pc := 112) (y := 8) dX10_sum_112 rfl ⟨by decide, by decide⟩ ?_
    refine X.iload_n (pc := 114) (i := 3) 3 dX10_sum_114 rfl rfl ?_
    refine X.imul (pc := 115) dX10_sum_115 ?_
    refine X.iload (pc := 116) (i := 6) 5 dX10_sum_116 rfl ?_
    refine X.iadd (pc := 118) dX10_sum_118 ?_
    obtain ⟨c2, h⟩ := h
    refine X.iaload (pc := 119) dX10_sum_119 (fa_X10_44 hW) c2 ?_
    refine X.i2l (pc := 120) dX10_sum_120 ?_
    refine X.aload_n (pc := 121) (i := 0) 0 dX10_sum_121 rfl rfl ?_
    refine X.getR (pc := 122) (b := 293) dX10_sum_122 fl_X10_93 rfl (fs_X10 hW) (fp_X10_38 hW) ?_
    refine X.iload_n (pc := 125) (i := 1) 1 dX10_sum_125 rfl rfl ?_
    refine X.iload (pc := 126) (i := 6) 5 dX10_sum_126 rfl ?_
    refine X.iadd (pc := 128) dX10_sum_128 ?_
    obtain ⟨c3, h⟩ := h
    refine X.laload (pc := 129) dX10_sum_129 (fa_X10_38 hW) c3 ?_
    refine X.pick [0, 1, 2, 3, 5] rfl ?_
    obtain ⟨c4, h⟩ := h
    obtain ⟨c5, h⟩ := h
    refine X.callS (pc := 130) (vs := [vL ((μ) 298 (Int.toNat (w32 ((w32 (8 * x3)) + x6)))), vL ((μ) 293 (Int.toNat (w32 (x1 + x6))))]) (st := [vL x4]) dX10_sum_130 rfl okM_X10_mult rfl lk_X10_248 stat_X10_mult ⟨⟨by decide, by decide⟩, ⟨by decide, by decide⟩, Nat.le_of_ble_eq_true rfl⟩ (Nat.le_of_ble_eq_true rfl) (c_X10_mult hW c4 c5 ?_)
    refine X.nrm (pc' := 133) (ls' := [(0, vR 265), (1, vI x1), (2, vI x2), (3, vI x3), (6, vI x6)]) (st' := [vL (wmult ((μ) 298 (Int.toNat (w32 ((w32 (8 * x3)) + x6)))) ((μ) 293 (Int.toNat (w32 (x1 + x6))))), vL x4]) (k' := 0) (n' := 0) rfl rfl rfl rfl rfl ?_
    obtain ⟨c6, h⟩ := h
    obtain ⟨c7, h⟩ := h
    refine X.callS (pc := 133) (vs := [vL x4, vL (wmult ((μ) 298 (Int.toNat (w32 ((w32 (8 * x3)) + x6)))) ((μ) 293 (Int.toNat (w32 (x1 + x6)))))]) (st := []) dX10_sum_133 rfl okM_X10_plus rfl lk_X10_241 stat_X10_plus ⟨⟨by decide, by decide⟩, ⟨by decide, by decide⟩, Nat.le_of_ble_eq_true rfl⟩ (Nat.le_of_ble_eq_true rfl) (c_X10_plus hW c6 c7 ?_)
    refine X.nrm (pc' := 136) (ls' := [(0, vR 265), (1, vI x1), (2, vI x2), (3, vI x3), (6, vI x6)]) (st' := [vL (wplus x4 (wmult ((μ) 298 (Int.toNat (w32 ((w32 (8 * x3)) + x6)))) ((μ) 293 (Int.toNat (w32 (x1 + x6))))))]) (k' := 0) (n' := 0) rfl rfl rfl rfl rfl ?_
    refine X.lstore (pc := 136) (i := 4) (ls' := [(4, vL (wplus x4 (wmult ((μ) 298 (Int.toNat (w32 ((w32 (8 * x3)) + x6)))) ((μ) 293 (Int.toNat (w32 (x1 + x6))))))), (0, vR 265), (1, vI x1), (2, vI x2), (3, vI x3), (6, vI x6)]) dX10_sum_136 (by decide) rfl ?_
    refine X.iinc (pc := 138) (i := 6) (ls' := [(6, vI (w32 (x6 + 1))), (4, vL (wplus x4 (wmult ((μ) 298 (Int.toNat (w32 ((w32 (8 * x3)) + x6)))) ((μ) 293 (Int.toNat (w32 (x1 + x6))))))), (0, vR 265), (1, vI x1), (2, vI x2), (3, vI x3)]) 5 dX10_sum_138 rfl (by decide) rfl ?_
    refine X.goto (pc := 141) (tgt := 99) dX10_sum_141 (by decide) ?_
    exact X.pick [2, 3, 4, 5, 1, 0] rfl h

theorem g_X10_sum_154 {sh : List (Nat × Nat)} {ν : Nat → Nat → Option Nat} {μ : Nat → Nat → Int} {f s : Nat} {Q : xQ} (hW : WF sh ν f s) {x1 : Int} {x2 : Int} {x3 : Int}
    (h : X mX10_sum 60 [(0, vR 265), (1, vI x1), (2, vI x2), (3, vI (w32 (x3 + 1)))] [] sh (ν) (μ) 0 0 Q) :
    X mX10_sum 154 [(0, vR 265), (1, vI x1), (2, vI x2), (3, vI x3)] [] sh ν μ 0 0 Q := by
  refine X.iinc (pc := 154) (i := 3) (ls' := [(3, vI (w32 (x3 + 1))), (0, vR 265), (1, vI x1), (2, vI x2)]) 3 dX10_sum_154 rfl (by decide) rfl ?_
  refine X.goto (pc := 157) (tgt := 60) dX10_sum_157 (by decide) ?_
  exact X.pick [1, 2, 3, 0] rfl h

theorem g_X10_tries_0 {sh : List (Nat × Nat)} {ν : Nat → Nat → Option Nat} {μ : Nat → Nat → Int} {f s : Nat} {Q : xQ} (hW : WF sh ν f s) {x1 : Int} {x2 : Int} {x3 : Int} {x4 : Int} {x5 : Int}
    (h : (0 ≤ x1 ∧ x1 < (40 : Nat)) ∧ X mX10_lay 0 [(0, vR 265), (1, vI x1), (2, vI x4), (3, vI x5)] [] sh (ν) (up (up μ 265 47 ((μ) 268 (Int.toNat x1))) 265 48 1) 0 0 (fun v sh' ν' μ' => X mX10_tries 24 [(0, vR 265), (1, vI x1), (2, vI x2), (3, vI x3), (4, vI x4), (5, vI x5)] (v.toList ++ []) sh' ν' μ' 0 0 Q)) :
    X mX10_tries 0 [(0, vR 265), (1, vI x1), (2, vI x2), (3, vI x3), (4, vI x4), (5, vI x5)] [] sh ν μ 0 0 Q := by
  refine X.aload_n (pc := 0) (i := 0) 0 dX10_tries_0 rfl rfl ?_
  refine X.aload_n (pc := 1) (i := 0) 0 dX10_tries_1 rfl rfl ?_
  refine X.getR (pc := 2) (b := 268) dX10_tries_2 fl_X10_16 rfl (fs_X10 hW) (fp_X10_3 hW) ?_
  refine X.iload_n (pc := 5) (i := 1) 1 dX10_tries_5 rfl rfl ?_
  obtain ⟨c1, h⟩ := h
  refine X.iaload (pc := 6) dX10_tries_6 (fa_X10_3 hW) c1 ?_
  refine X.putI (pc := 7) dX10_tries_7 fl_X10_257 rfl (fun h9 => by cases h9) (fs_X10 hW) (Or.inl rfl) ?_
  refine X.aload_n (pc := 10) (i := 0) 0 dX10_tries_10 rfl rfl ?_
  refine X.iconst (pc := 11) dX10_tries_11 ⟨by decide, by decide⟩ ?_
  refine X.putI (pc := 12) dX10_tries_12 fl_X10_260 rfl (fun h9 => by cases h9) (fs_X10 hW) (Or.inl rfl) ?_
  refine X.aload_n (pc := 15) (i := 0) 0 dX10_tries_15 rfl rfl ?_
  refine X.iload_n (pc := 16) (i := 1) 1 dX10_tries_16 rfl rfl ?_
  refine X.iload (pc := 17) (i := 4) 4 dX10_tries_17 rfl ?_
  refine X.iload (pc := 19) (i := 5) 5 dX10_tries_19 rfl ?_
  exact X.callV (pc := 21) (vs := [vI x1, vI x4, vI x5]) (st := []) dX10_tries_21 rfl okM_X10_lay rfl lk_X10_186 inst_X10_lay sel_X10_lay (fs_X10 hW) rfl ⟨⟨by decide, by decide⟩, ⟨by decide, by decide⟩, Nat.le_of_ble_eq_true rfl⟩ (Nat.le_of_ble_eq_true rfl) h

theorem g_X10_tries_24 {sh : List (Nat × Nat)} {ν : Nat → Nat → Option Nat} {μ : Nat → Nat → Int} {f s : Nat} {Q : xQ} (hW : WF sh ν f s) {x1 : Int} {x2 : Int} {x3 : Int} {x4 : Int} {x5 : Int} {y0 : Int}
    (h : ((y0 = 0 → Q (some (vI 0)) sh (ν) (μ)) ∧ (y0 ≠ 0 → (0 ≤ x1 ∧ x1 < (40 : Nat)) ∧ ((((μ) 267 (Int.toNat x1)) ≠ 0 → X mX10_tries 64 [(0, vR 265), (1, vI x1), (2, vI x2), (3, vI x3), (4, vI x4), (5, vI x5)] [] sh (ν) (μ) 0 0 Q) ∧ (((μ) 267 (Int.toNat x1)) = 0 → ((((μ) 265 42) = 0 → X mX10_tries 64 [(0, vR 265), (1, vI x1), (2, vI x2), (3, vI x3), (4, vI x4), (5, vI x5)] [] sh (ν) (μ) 0 0 Q) ∧ (((μ) 265 42) ≠ 0 → (0 ≤ x1 ∧ x1 < (40 : Nat)) ∧ X mX10_isAll 0 [(0, vR 265), (1, vI x2), (2, vI x3), (3, vI x4), (4, vI x5), (5, vI ((μ) 269 (Int.toNat x1)))] [] sh (ν) (μ) 0 0 (fun v sh' ν' μ' => X mX10_tries 59 [(0, vR 265), (1, vI x1), (2, vI x2), (3, vI x3), (4, vI x4), (5, vI x5)] (v.toList ++ []) sh' ν' μ' 0 0 Q)))))))) :
    X mX10_tries 24 [(0, vR 265), (1, vI x1), (2, vI x2), (3, vI x3), (4, vI x4), (5, vI x5)] [vI y0] sh ν μ 0 0 Q := by
  refine X.if_eq (pc := 24) 62 dX10_tries_24 (by decide) ⟨fun q9 => ?_, fun q9 => ?_⟩
  · have h := h.1 q9
    refine X.iconst (pc := 62) dX10_tries_62 ⟨by decide, by decide⟩ ?_
    exact X.zret (pc := 63) dX10_tries_63 rfl (by decide) (Nat.le_of_ble_eq_true rfl) (Nat.le_of_ble_eq_true rfl) h
  · have h := h.2 q9
    refine X.aload_n (pc := 27) (i := 0) 0 dX10_tries_27 rfl rfl ?_
    refine X.getR (pc := 28) (b := 267) dX10_tries_28 fl_X10_13 rfl (fs_X10 hW) (fp_X10_2 hW) ?_
    refine X.iload_n (pc := 31) (i := 1) 1 dX10_tries_31 rfl rfl ?_
    obtain ⟨c1, h⟩ := h
    refine X.iaload (pc := 32) dX10_tries_32 (fa_X10_2 hW) c1 ?_
    refine X.if_ne (pc := 33) 64 dX10_tries_33 (by decide) ⟨fun q9 => ?_, fun q9 => ?_⟩
    · have h := h.1 q9
      exact h
    · have h := h.2 q9
      refine X.aload_n (pc := 36) (i := 0) 0 dX10_tries_36 rfl rfl ?_
      refine X.getI (pc := 37) dX10_tries_37 fl_X10_229 rfl (fs_X10 hW) ?_
      refine X.if_eq (pc := 40) 64 dX10_tries_40 (by decide) ⟨fun q9 => ?_, fun q9 => ?_⟩
      · have h := h.1 q9
        exact h
      · have h := h.2 q9
        refine X.aload_n (pc := 43) (i := 0) 0 dX10_tries_43 rfl rfl ?_
        refine X.iload_n (pc := 44) (i := 2) 2 dX10_tries_44 rfl rfl ?_
        refine X.iload_n (pc := 45) (i := 3) 3 dX10_tries_45 rfl rfl ?_
        refine X.iload (pc := 46) (i := 4) 4 dX10_tries_46 rfl ?_
        refine X.iload (pc := 48) (i := 5) 5 dX10_tries_48 rfl ?_
        refine X.aload_n (pc := 50) (i := 0) 0 dX10_tries_50 rfl rfl ?_
        refine X.getR (pc := 51) (b := 269) dX10_tries_51 fl_X10_19 rfl (fs_X10 hW) (fp_X10_4 hW) ?_
        refine X.iload_n (pc := 54) (i := 1) 1 dX10_tries_54 rfl rfl ?_
        obtain ⟨c2, h⟩ := h
        refine X.iaload (pc := 55) dX10_tries_55 (fa_X10_4 hW) c2 ?_
        exact X.callV (pc := 56) (vs := [vI x2, vI x3, vI x4, vI x5, vI ((μ) 269 (Int.toNat x1))]) (st := []) dX10_tries_56 rfl okM_X10_isAll rfl lk_X10_237 inst_X10_isAll sel_X10_isAll (fs_X10 hW) rfl ⟨⟨by decide, by decide⟩, ⟨by decide, by decide⟩, Nat.le_of_ble_eq_true rfl⟩ (Nat.le_of_ble_eq_true rfl) h

theorem g_X10_tries_59 {sh : List (Nat × Nat)} {ν : Nat → Nat → Option Nat} {μ : Nat → Nat → Int} {f s : Nat} {Q : xQ} (hW : WF sh ν f s) {x1 : Int} {x2 : Int} {x3 : Int} {x4 : Int} {x5 : Int} {y0 : Int}
    (h : ((y0 ≠ 0 → X mX10_tries 64 [(0, vR 265), (1, vI x1), (2, vI x2), (3, vI x3), (4, vI x4), (5, vI x5)] [] sh (ν) (μ) 0 0 Q) ∧ (y0 = 0 → Q (some (vI 0)) sh (ν) (μ)))) :
    X mX10_tries 59 [(0, vR 265), (1, vI x1), (2, vI x2), (3, vI x3), (4, vI x4), (5, vI x5)] [vI y0] sh ν μ 0 0 Q := by
  refine X.if_ne (pc := 59) 64 dX10_tries_59 (by decide) ⟨fun q9 => ?_, fun q9 => ?_⟩
  · have h := h.1 q9
    exact h
  · have h := h.2 q9
    refine X.iconst (pc := 62) dX10_tries_62 ⟨by decide, by decide⟩ ?_
    exact X.zret (pc := 63) dX10_tries_63 rfl (by decide) (Nat.le_of_ble_eq_true rfl) (Nat.le_of_ble_eq_true rfl) h

theorem g_X10_tries_64 {sh : List (Nat × Nat)} {ν : Nat → Nat → Option Nat} {μ : Nat → Nat → Int} {f s : Nat} {Q : xQ} (hW : WF sh ν f s) {x1 : Int} {x2 : Int} {x3 : Int} {x4 : Int} {x5 : Int}
    (h : (0 ≤ x1 ∧ x1 < (40 : Nat)) ∧ X mX10_tries 77 [(0, vR 265), (2, vI x2), (3, vI x3), (4, vI x4), (5, vI x5), (6, vI (bI ((μ) 267 (Int.toNat x1) = 2 ∨ (μ) 267 (Int.toNat x1) = 4))), (7, vI 1), (8, vI 0)] [] sh (ν) (μ) 0 0 Q) :
    X mX10_tries 64 [(0, vR 265), (1, vI x1), (2, vI x2), (3, vI x3), (4, vI x4), (5, vI x5)] [] sh ν μ 0 0 Q := by
  refine X.aload_n (pc := 64) (i := 0) 0 dX10_tries_64 rfl rfl ?_
  refine X.iload_n (pc := 65) (i := 1) 1 dX10_tries_65 rfl rfl ?_
  refine X.pick [0, 2, 3, 4, 5] rfl ?_
  obtain ⟨c1, h⟩ := h
  refine X.callV (pc := 66) (vs := [vI x1]) (st := []) dX10_tries_66 rfl okM_X10_isAlongY rfl lk_X10_176 inst_X10_isAlongY sel_X10_isAlongY (fs_X10 hW) rfl ⟨⟨by decide, by decide⟩, ⟨by decide, by decide⟩, Nat.le_of_ble_eq_true rfl⟩ (Nat.le_of_ble_eq_true rfl) (c_X10_isAlongY hW c1 ?_)
  refine X.nrm (pc' := 69) (ls' := [(0, vR 265), (2, vI x2), (3, vI x3), (4, vI x4), (5, vI x5)]) (st' := [vI (bI ((μ) 267 (Int.toNat x1) = 2 ∨ (μ) 267 (Int.toNat x1) = 4))]) (k' := 0) (n' := 0) rfl rfl rfl rfl rfl ?_
  refine X.istore (pc := 69) (i := 6) (ls' := [(6, vI (bI ((μ) 267 (Int.toNat x1) = 2 ∨ (μ) 267 (Int.toNat x1) = 4))), (0, vR 265), (2, vI x2), (3, vI x3), (4, vI x4), (5, vI x5)]) dX10_tries_69 (by decide) rfl ?_
  refine X.iconst (pc := 71) dX10_tries_71 ⟨by decide, by decide⟩ ?_
  refine X.istore (pc := 72) (i := 7) (ls' := [(7, vI 1), (6, vI (bI ((μ) 267 (Int.toNat x1) = 2 ∨ (μ) 267 (Int.toNat x1) = 4))), (0, vR 265), (2, vI x2), (3, vI x3), (4, vI x4), (5, vI x5)]) dX10_tries_72 (by decide) rfl ?_
  refine X.iconst (pc := 74) dX10_tries_74 ⟨by decide, by decide⟩ ?_
  refine X.istore (pc := 75) (i := 8) (ls' := [(8, vI 0), (7, vI 1), (6, vI (bI ((μ) 267 (Int.toNat x1) = 2 ∨ (μ) 267 (Int.toNat x1) = 4))), (0, vR 265), (2, vI x2), (3, vI x3), (4, vI x4), (5, vI x5)]) dX10_tries_75 (by decide) rfl ?_
  exact X.pick [3, 4, 5, 6, 7, 2, 1, 0] rfl h

theorem g_X10_tries_77 {sh : List (Nat × Nat)} {ν : Nat → Nat → Option Nat} {μ : Nat → Nat → Int} {f s : Nat} {Q : xQ} (hW : WF sh ν f s) {x2 : Int} {x3 : Int} {x4 : Int} {x5 : Int} {x6 : Int} {x7 : Int} {x8 : Int}
    (h : ((((μ) 265 14) ≤ x8 → (x7 = 0 ∨ x7 = 1) ∧ Q (some (vI x7)) sh (ν) (μ)) ∧ (x8 < ((μ) 265 14) → ((x7 = 0 → (x7 = 0 ∨ x7 = 1) ∧ Q (some (vI x7)) sh (ν) (μ)) ∧ (x7 ≠ 0 → ((x6 = 0 → (0 ≤ x8 ∧ x8 < (20 : Nat)) ∧ (0 ≤ x8 ∧ x8 < (20 : Nat)) ∧ ((0 : Int) ≤ (w32 (x2 + ((μ) 278 (Int.toNat x8)))) ∧ ((w32 (x2 + ((μ) 278 (Int.toNat x8)))) : Int) ≤ 20) ∧ ((0 : Int) ≤ x3 ∧ (x3 : Int) ≤ 20) ∧ ((1 : Int) ≤ ((μ) 279 (Int.toNat x8)) ∧ (((μ) 279 (Int.toNat x8)) : Int) ≤ 20) ∧ ((1 : Int) ≤ x5 ∧ (x5 : Int) ≤ 20) ∧ X mX10_tries 145 [(0, vR 265), (2, vI x2), (3, vI x3), (4, vI x4), (5, vI x5), (6, vI x6), (8, vI x8)] [vI (plF ((μ) 265 42) (w32 (x2 + ((μ) 278 (Int.toNat x8)))) x3 ((μ) 279 (Int.toNat x8)) x5)] sh (ν) (μ) 0 0 Q) ∧ (x6 ≠ 0 → (0 ≤ x8 ∧ x8 < (20 : Nat)) ∧ (0 ≤ x8 ∧ x8 < (20 : Nat)) ∧ ((0 : Int) ≤ x2 ∧ (x2 : Int) ≤ 20) ∧ ((0 : Int) ≤ (w32 (x3 + ((μ) 278 (Int.toNat x8)))) ∧ ((w32 (x3 + ((μ) 278 (Int.toNat x8)))) : Int) ≤ 20) ∧ ((1 : Int) ≤ x4 ∧ (x4 : Int) ≤ 20) ∧ ((1 : Int) ≤ ((μ) 279 (Int.toNat x8)) ∧ (((μ) 279 (Int.toNat x8)) : Int) ≤ 20) ∧ X mX10_tries 145 [(0, vR 265), (2, vI x2), (3, vI x3), (4, vI x4), (5, vI x5), (6, vI x6), (8, vI x8)] [vI (plF ((μ) 265 42) x2 (w32 (x3 + ((μ) 278 (Int.toNat x8)))) x4 ((μ) 279 (Int.toNat x8)))] sh (ν) (μ) 0 0 Q))))))) :
    X mX10_tries 77 [(0, vR 265), (2, vI x2), (3, vI x3), (4, vI x4), (5, vI x5), (6, vI x6), (7, vI x7), (8, vI x8)] [] sh ν μ 0 0 Q := by
  refine X.iload (pc := 77) (i := 8) 7 dX10_tries_77 rfl ?_
  refine X.aload_n (pc := 79) (i := 0) 0 dX10_tries_79 rfl rfl ?_
  refine X.getI (pc := 80) dX10_tries_80 fl_X10_173 rfl (fs_X10 hW) ?_
  refine X.icmp_ge (pc := 83) 234 dX10_tries_83 (by decide) ⟨fun q9 => ?_, fun q9 => ?_⟩
  · have h := h.1 q9
    refine X.iload (pc := 234) (i := 7) 6 dX10_tries_234 rfl ?_
    obtain ⟨c1, h⟩ := h
    exact X.zret (pc := 236) dX10_tries_236 rfl c1 (Nat.le_of_ble_eq_true rfl) (Nat.le_of_ble_eq_true rfl) h
  · have h := h.2 q9
    refine X.iload (pc := 86) (i := 7) 6 dX10_tries_86 rfl ?_
    refine X.if_eq (pc := 88) 234 dX10_tries_88 (by decide) ⟨fun q9 => ?_, fun q9 => ?_⟩
    · have h := h.1 q9
      refine X.iload (pc := 234) (i := 7) 6 dX10_tries_234 rfl ?_
      obtain ⟨c2, h⟩ := h
      exact X.zret (pc := 236) dX10_tries_236 rfl c2 (Nat.le_of_ble_eq_true rfl) (Nat.le_of_ble_eq_true rfl) h
    · have h := h.2 q9
      refine X.iload (pc := 91) (i := 6) 5 dX10_tries_91 rfl ?_
      refine X.if_eq (pc := 93) 122 dX10_tries_93 (by decide) ⟨fun q9 => ?_, fun q9 => ?_⟩
      · have h := h.1 q9
        refine X.aload_n (pc := 122) (i := 0) 0 dX10_tries_122 rfl rfl ?_
        refine X.iload_n (pc := 123) (i := 2) 1 dX10_tries_123 rfl rfl ?_
        refine X.aload_n (pc := 124) (i := 0) 0 dX10_tries_124 rfl rfl ?_
        refine X.getR (pc := 125) (b := 278) dX10_tries_125 fl_X10_47 rfl (fs_X10 hW) (fp_X10_15 hW) ?_
        refine X.iload (pc := 128) (i := 8) 7 dX10_tries_128 rfl ?_
        obtain ⟨c3, h⟩ := h
        refine X.iaload (pc := 130) dX10_tries_130 (fa_X10_15 hW) c3 ?_
        refine X.iadd (pc := 131) dX10_tries_131 ?_
        refine X.iload_n (pc := 132) (i := 3) 2 dX10_tries_132 rfl rfl ?_
        refine X.aload_n (pc := 133) (i := 0) 0 dX10_tries_133 rfl rfl ?_
        refine X.getR (pc := 134) (b := 279) dX10_tries_134 fl_X10_50 rfl (fs_X10 hW) (fp_X10_16 hW) ?_
        refine X.iload (pc := 137) (i := 8) 7 dX10_tries_137 rfl ?_
        obtain ⟨c4, h⟩ := h
        refine X.iaload (pc := 139) dX10_tries_139 (fa_X10_16 hW) c4 ?_
        refine X.iload (pc := 140) (i := 5) 4 dX10_tries_140 rfl ?_
        refine X.pick [0, 1, 2, 3, 4, 5, 7] rfl ?_
        obtain ⟨c5, h⟩ := h
        obtain ⟨c6, h⟩ := h
        obtain ⟨c7, h⟩ := h
        obtain ⟨c8, h⟩ := h
        refine X.callV (pc := 142) (vs := [vI (w32 (x2 + ((μ) 278 (Int.toNat x8)))), vI x3, vI ((μ) 279 (Int.toNat x8)), vI x5]) (st := []) dX10_tries_142 rfl okM_X10_place rfl lk_X10_245 inst_X10_place sel_X10_place (fs_X10 hW) rfl ⟨⟨by decide, by decide⟩, ⟨by decide, by decide⟩, Nat.le_of_ble_eq_true rfl⟩ (Nat.le_of_ble_eq_true rfl) (c_X10_place hW c5 c6 c7 c8 ?_)
        refine X.nrm (pc' := 145) (ls' := [(0, vR 265), (2, vI x2), (3, vI x3), (4, vI x4), (5, vI x5), (6, vI x6), (8, vI x8)]) (st' := [vI (plF ((μ) 265 42) (w32 (x2 + ((μ) 278 (Int.toNat x8)))) x3 ((μ) 279 (Int.toNat x8)) x5)]) (k' := 0) (n' := 0) rfl rfl rfl rfl rfl ?_
        exact h
      · have h := h.2 q9
        refine X.aload_n (pc := 96) (i := 0) 0 dX10_tries_96 rfl rfl ?_
        refine X.iload_n (pc := 97) (i := 2) 1 dX10_tries_97 rfl rfl ?_
        refine X.iload_n (pc := 98) (i := 3) 2 dX10_tries_98 rfl rfl ?_
        refine X.aload_n (pc := 99) (i := 0) 0 dX10_tries_99 rfl rfl ?_
        refine X.getR (pc := 100) (b := 278) dX10_tries_100 fl_X10_47 rfl (fs_X10 hW) (fp_X10_15 hW) ?_
        refine X.iload (pc := 103) (i := 8) 7 dX10_tries_103 rfl ?_
        obtain ⟨c9, h⟩ := h
        refine X.iaload (pc := 105) dX10_tries_105 (fa_X10_15 hW) c9 ?_
        refine X.iadd (pc := 106) dX10_tries_106 ?_
        refine X.iload (pc := 107) (i := 4) 3 dX10_tries_107 rfl ?_
        refine X.aload_n (pc := 109) (i := 0) 0 dX10_tries_109 rfl rfl ?_
        refine X.getR (pc := 110) (b := 279) dX10_tries_110 fl_X10_50 rfl (fs_X10 hW) (fp_X10_16 hW) ?_
        refine X.iload (pc := 113) (i := 8) 7 dX10_tries_113 rfl ?_
        obtain ⟨c10, h⟩ := h
        refine X.iaload (pc := 115) dX10_tries_115 (fa_X10_16 hW) c10 ?_
        refine X.pick [0, 1, 2, 3, 4, 5, 7] rfl ?_
        obtain ⟨c11, h⟩ := h
        obtain ⟨c12, h⟩ := h
        obtain ⟨c13, h⟩ := h
        obtain ⟨c14, h⟩ := h
        refine X.callV (pc := 116) (vs := [vI x2, vI (w32 (x3 + ((μ) 278 (Int.toNat x8)))), vI x4, vI ((μ) 279 (Int.toNat x8))]) (st := []) dX10_tries_116 rfl okM_X10_place rfl lk_X10_245 inst_X10_place sel_X10_place (fs_X10 hW) rfl ⟨⟨by decide, by decide⟩, ⟨by decide, by decide⟩, Nat.le_of_ble_eq_true rfl⟩ (Nat.le_of_ble_eq_true rfl) (c_X10_place hW c11 c12 c13 c14 ?_)
        refine X.nrm (pc' := 119) (ls' := [(0, vR 265), (2, vI x2), (3, vI x3), (4, vI x4), (5, vI x5), (6, vI x6), (8, vI x8)]) (st' := [vI (plF ((μ) 265 42) x2 (w32 (x3 + ((μ) 278 (Int.toNat x8)))) x4 ((μ) 279 (Int.toNat x8)))]) (k' := 0) (n' := 0) rfl rfl rfl rfl rfl ?_
        refine X.goto (pc := 119) (tgt := 145) dX10_tries_119 (by decide) ?_
        exact h

theorem g_X10_tries_145 {sh : List (Nat × Nat)} {ν : Nat → Nat → Option Nat} {μ : Nat → Nat → Int} {f s : Nat} {Q : xQ} (hW : WF sh ν f s) {x2 : Int} {x3 : Int} {x4 : Int} {x5 : Int} {x6 : Int} {x8 : Int} {y0 : Int}
    (h : (0 ≤ x8 ∧ x8 < (20 : Nat)) ∧ (0 ≤ (w32 (y0 + ((μ) 280 (Int.toNat x8)))) ∧ (w32 (y0 + ((μ) 280 (Int.toNat x8)))) < (55688 : Nat)) ∧ ((((μ) 296 (Int.toNat (w32 (y0 + ((μ) 280 (Int.toNat x8)))))) = (-9) → X mX10_tries 176 [(0, vR 265), (2, vI x2), (3, vI x3), (4, vI x4), (5, vI x5), (6, vI x6), (8, vI x8), (10, vI (w32 (y0 + ((μ) 280 (Int.toNat x8)))))] [vI 0] sh (ν) (μ) 0 0 Q) ∧ (((μ) 296 (Int.toNat (w32 (y0 + ((μ) 280 (Int.toNat x8)))))) ≠ (-9) → X mX10_tries 176 [(0, vR 265), (2, vI x2), (3, vI x3), (4, vI x4), (5, vI x5), (6, vI x6), (8, vI x8), (10, vI (w32 (y0 + ((μ) 280 (Int.toNat x8)))))] [vI 1] sh (ν) (μ) 0 0 Q))) :
    X mX10_tries 145 [(0, vR 265), (2, vI x2), (3, vI x3), (4, vI x4), (5, vI x5), (6, vI x6), (8, vI x8)] [vI y0] sh ν μ 0 0 Q := by
  refine X.istore (pc := 145) (i := 9) (ls' := [(9, vI y0), (0, vR 265), (2, vI x2), (3, vI x3), (4, vI x4), (5, vI x5), (6, vI x6), (8, vI x8)]) dX10_tries_145 (by decide) rfl ?_
  refine X.iload (pc := 147) (i := 9) 0 dX10_tries_147 rfl ?_
  refine X.aload_n (pc := 149) (i := 0) 1 dX10_tries_149 rfl rfl ?_
  refine X.getR (pc := 150) (b := 280) dX10_tries_150 fl_X10_53 rfl (fs_X10 hW) (fp_X10_17 hW) ?_
  refine X.iload (pc := 153) (i := 8) 7 dX10_tries_153 rfl ?_
  obtain ⟨c1, h⟩ := h
  refine X.iaload (pc := 155) dX10_tries_155 (fa_X10_17 hW) c1 ?_
  refine X.iadd (pc := 156) dX10_tries_156 ?_
  refine X.istore (pc := 157) (i := 10) (ls' := [(10, vI (w32 (y0 + ((μ) 280 (Int.toNat x8))))), (9, vI y0), (0, vR 265), (2, vI x2), (3, vI x3), (4, vI x4), (5, vI x5), (6, vI x6), (8, vI x8)]) dX10_tries_157 (by decide) rfl ?_
  refine X.aload_n (pc := 159) (i := 0) 2 dX10_tries_159 rfl rfl ?_
  refine X.getR (pc := 160) (b := 296) dX10_tries_160 fl_X10_103 rfl (fs_X10 hW) (fp_X10_41 hW) ?_
  refine X.iload (pc := 163) (i := 10) 0 dX10_tries_163 rfl ?_
  obtain ⟨c2, h⟩ := h
  refine X.iaload (pc := 165) dX10_tries_165 (fa_X10_41 hW) c2 ?_
  refine X.bipush (pc := 166) (y := -9) dX10_tries_166 rfl ⟨by decide, by decide⟩ ?_
  refine X.icmp_eq (pc := 168) 175 dX10_tries_168 (by decide) ⟨fun q9 => ?_, fun q9 => ?_⟩
  · have h := h.1 q9
    refine X.iconst (pc := 175) dX10_tries_175 ⟨by decide, by decide⟩ ?_
    exact X.pick [2, 3, 4, 5, 6, 7, 8, 0] rfl h
  · have h := h.2 q9
    refine X.iconst (pc := 171) dX10_tries_171 ⟨by decide, by decide⟩ ?_
    refine X.goto (pc := 172) (tgt := 176) dX10_tries_172 (by decide) ?_
    exact X.pick [2, 3, 4, 5, 6, 7, 8, 0] rfl h

theorem g_X10_tries_176 {sh : List (Nat × Nat)} {ν : Nat → Nat → Option Nat} {μ : Nat → Nat → Int} {f s : Nat} {Q : xQ} (hW : WF sh ν f s) {x2 : Int} {x3 : Int} {x4 : Int} {x5 : Int} {x6 : Int} {x8 : Int} {x10 : Int} {y0 : Int}
    (h : ((y0 = 0 → X mX10_tries 199 [(0, vR 265), (2, vI x2), (3, vI x3), (4, vI x4), (5, vI x5), (6, vI x6), (7, vI y0), (8, vI x8), (10, vI x10)] [vI 0, vI ((μ) 265 47), vR 265] sh (ν) (μ) 0 0 Q) ∧ (y0 ≠ 0 → (0 ≤ x10 ∧ x10 < (55688 : Nat)) ∧ X mX10_tries 199 [(0, vR 265), (2, vI x2), (3, vI x3), (4, vI x4), (5, vI x5), (6, vI x6), (7, vI y0), (8, vI x8), (10, vI x10)] [vI ((μ) 294 (Int.toNat x10)), vI ((μ) 265 47), vR 265] sh (ν) (μ) 0 0 Q))) :
    X mX10_tries 176 [(0, vR 265), (2, vI x2), (3, vI x3), (4, vI x4), (5, vI x5), (6, vI x6), (8, vI x8), (10, vI x10)] [vI y0] sh ν μ 0 0 Q := by
  refine X.istore (pc := 176) (i := 7) (ls' := [(7, vI y0), (0, vR 265), (2, vI x2), (3, vI x3), (4, vI x4), (5, vI x5), (6, vI x6), (8, vI x8), (10, vI x10)]) dX10_tries_176 (by decide) rfl ?_
  refine X.aload_n (pc := 178) (i := 0) 1 dX10_tries_178 rfl rfl ?_
  refine X.dup (pc := 179) dX10_tries_179 rfl ?_
  refine X.getI (pc := 180) dX10_tries_180 fl_X10_257 rfl (fs_X10 hW) ?_
  refine X.iload (pc := 183) (i := 7) 0 dX10_tries_183 rfl ?_
  refine X.if_eq (pc := 185) 198 dX10_tries_185 (by decide) ⟨fun q9 => ?_, fun q9 => ?_⟩
  · have h := h.1 q9
    refine X.iconst (pc := 198) dX10_tries_198 ⟨by decide, by decide⟩ ?_
    exact X.pick [1, 2, 3, 4, 5, 6, 0, 7, 8] rfl h
  · have h := h.2 q9
    refine X.aload_n (pc := 188) (i := 0) 1 dX10_tries_188 rfl rfl ?_
    refine X.getR (pc := 189) (b := 294) dX10_tries_189 fl_X10_97 rfl (fs_X10 hW) (fp_X10_39 hW) ?_
    refine X.iload (pc := 192) (i := 10) 8 dX10_tries_192 rfl ?_
    obtain ⟨c1, h⟩ := h
    refine X.iaload (pc := 194) dX10_tries_194 (fa_X10_39 hW) c1 ?_
    refine X.goto (pc := 195) (tgt := 199) dX10_tries_195 (by decide) ?_
    exact X.pick [1, 2, 3, 4, 5, 6, 0, 7, 8] rfl h

theorem g_X10_tries_199 {sh : List (Nat × Nat)} {ν : Nat → Nat → Option Nat} {μ : Nat → Nat → Int} {f s : Nat} {Q : xQ} (hW : WF sh ν f s) {x2 : Int} {x3 : Int} {x4 : Int} {x5 : Int} {x6 : Int} {x7 : Int} {x8 : Int} {x10 : Int} {y1 : Int} {y2 : Int}
    (h : ((x7 = 0 → X mX10_tries 224 [(0, vR 265), (2, vI x2), (3, vI x3), (4, vI x4), (5, vI x5), (6, vI x6), (7, vI x7), (8, vI x8)] [vI 0, vI ((μ) 265 48), vR 265] sh (ν) (up μ 265 47 (w32 (y1 + y2))) 0 0 Q) ∧ (x7 ≠ 0 → (0 ≤ x10 ∧ x10 < (55688 : Nat)) ∧ X mX10_tries 224 [(0, vR 265), (2, vI x2), (3, vI x3), (4, vI x4), (5, vI x5), (6, vI x6), (7, vI x7), (8, vI x8)] [vI ((μ) 295 (Int.toNat x10)), vI ((μ) 265 48), vR 265] sh (ν) (up μ 265 47 (w32 (y1 + y2))) 0 0 Q))) :
    X mX10_tries 199 [(0, vR 265), (2, vI x2), (3, vI x3), (4, vI x4), (5, vI x5), (6, vI x6), (7, vI x7), (8, vI x8), (10, vI x10)] [vI y2, vI y1, vR 265] sh ν μ 0 0 Q := by
  refine X.iadd (pc := 199) dX10_tries_199 ?_
  refine X.putI (pc := 200) dX10_tries_200 fl_X10_257 rfl (fun h9 => by cases h9) (fs_X10 hW) (Or.inl rfl) ?_
  refine X.aload_n (pc := 203) (i := 0) 0 dX10_tries_203 rfl rfl ?_
  refine X.dup (pc := 204) dX10_tries_204 rfl ?_
  refine X.getI (pc := 205) dX10_tries_205 fl_X10_260 rfl (fs_X10 hW) ?_
  refine X.topI (y := ((μ) 265 48)) ((up_k (by decide) _)) ?_
  refine X.iload (pc := 208) (i := 7) 6 dX10_tries_208 rfl ?_
  refine X.if_eq (pc := 210) 223 dX10_tries_210 (by decide) ⟨fun q9 => ?_, fun q9 => ?_⟩
  · have h := h.1 q9
    refine X.iconst (pc := 223) dX10_tries_223 ⟨by decide, by decide⟩ ?_
    exact X.pick [0, 1, 2, 3, 4, 5, 6, 7] rfl h
  · have h := h.2 q9
    refine X.aload_n (pc := 213) (i := 0) 0 dX10_tries_213 rfl rfl ?_
    refine X.getR (pc := 214) (b := 295) dX10_tries_214 fl_X10_100 rfl (fs_X10 hW) (fp_X10_40 hW) ?_
    refine X.iload (pc := 217) (i := 10) 8 dX10_tries_217 rfl ?_
    obtain ⟨c1, h⟩ := h
    refine X.iaload (pc := 219) dX10_tries_219 (fa_X10_40 hW) c1 ?_
    refine X.topI (y := ((μ) 295 (Int.toNat x10))) ((up_a (by decide) _)) ?_
    refine X.goto (pc := 220) (tgt := 224) dX10_tries_220 (by decide) ?_
    exact X.pick [0, 1, 2, 3, 4, 5, 6, 7] rfl h

theorem g_X10_tries_224 {sh : List (Nat × Nat)} {ν : Nat → Nat → Option Nat} {μ : Nat → Nat → Int} {f s : Nat} {Q : xQ} (hW : WF sh ν f s) {x2 : Int} {x3 : Int} {x4 : Int} {x5 : Int} {x6 : Int} {x7 : Int} {x8 : Int} {y1 : Int} {y2 : Int}
    (h : X mX10_tries 77 [(0, vR 265), (2, vI x2), (3, vI x3), (4, vI x4), (5, vI x5), (6, vI x6), (7, vI x7), (8, vI (w32 (x8 + 1)))] [] sh (ν) (up μ 265 48 (w32 (y1 + y2))) 0 0 Q) :
    X mX10_tries 224 [(0, vR 265), (2, vI x2), (3, vI x3), (4, vI x4), (5, vI x5), (6, vI x6), (7, vI x7), (8, vI x8)] [vI y2, vI y1, vR 265] sh ν μ 0 0 Q := by
  refine X.iadd (pc := 224) dX10_tries_224 ?_
  refine X.putI (pc := 225) dX10_tries_225 fl_X10_260 rfl (fun h9 => by cases h9) (fs_X10 hW) (Or.inl rfl) ?_
  refine X.iinc (pc := 228) (i := 8) (ls' := [(8, vI (w32 (x8 + 1))), (0, vR 265), (2, vI x2), (3, vI x3), (4, vI x4), (5, vI x5), (6, vI x6), (7, vI x7)]) 7 dX10_tries_228 rfl (by decide) rfl ?_
  refine X.goto (pc := 231) (tgt := 77) dX10_tries_231 (by decide) ?_
  exact X.pick [1, 2, 3, 4, 5, 6, 7, 0] rfl h

theorem g_X10_improve_0 {sh : List (Nat × Nat)} {ν : Nat → Nat → Option Nat} {μ : Nat → Nat → Int} {f s : Nat} {Q : xQ} (hW : WF sh ν f s) {x1 : Int} {x2 : Int} {x3 : Int} {x4 : Int} {x5 : Int}
    (h : X mX10_improve 6 [(0, vR 265), (1, vI x1), (2, vI x2), (3, vI x3), (4, vI x4), (5, vI x5), (6, vI 0), (7, vI 0)] [] sh (ν) (μ) 0 0 Q) :
    X mX10_improve 0 [(0, vR 265), (1, vI x1), (2, vI x2), (3, vI x3), (4, vI x4), (5, vI x5)] [] sh ν μ 0 0 Q := by
  refine X.iconst (pc := 0) dX10_improve_0 ⟨by decide, by decide⟩ ?_
  refine X.istore (pc := 1) (i := 6) (ls' := [(6, vI 0), (0, vR 265), (1, vI x1), (2, vI x2), (3, vI x3), (4, vI x4), (5, vI x5)]) dX10_improve_1 (by decide) rfl ?_
  refine X.iconst (pc := 3) dX10_improve_3 ⟨by decide, by decide⟩ ?_
  refine X.istore (pc := 4) (i := 7) (ls' := [(7, vI 0), (6, vI 0), (0, vR 265), (1, vI x1), (2, vI x2), (3, vI x3), (4, vI x4), (5, vI x5)]) dX10_improve_4 (by decide) rfl ?_
  exact X.pick [2, 3, 4, 5, 6, 7, 1, 0] rfl h

theorem g_X10_improve_6 {sh : List (Nat × Nat)} {ν : Nat → Nat → Option Nat} {μ : Nat → Nat → Int} {f s : Nat} {Q : xQ} (hW : WF sh ν f s) {x1 : Int} {x2 : Int} {x3 : Int} {x4 : Int} {x5 : Int} {x6 : Int} {x7 : Int}
    (h : ((((μ) 265 0) ≤ x7 → (x6 = 0 ∨ x6 = 1) ∧ Q (some (vI x6)) sh (ν) (μ)) ∧ (x7 < ((μ) 265 0) → (0 ≤ x7 ∧ x7 < (40 : Nat)) ∧ X mX10_tries 0 [(0, vR 265), (1, vI x7), (2, vI x2), (3, vI x3), (4, vI x4), (5, vI x5)] [] sh (ν) (μ) 0 0 (fun v sh' ν' μ' => X mX10_improve 38 [(0, vR 265), (1, vI x1), (2, vI x2), (3, vI x3), (4, vI x4), (5, vI x5), (6, vI x6), (7, vI x7), (8, vI (w32 (x1 + ((μ) 266 (Int.toNat x7)))))] (v.toList ++ []) sh' ν' μ' 0 0 Q)))) :
    X mX10_improve 6 [(0, vR 265), (1, vI x1), (2, vI x2), (3, vI x3), (4, vI x4), (5, vI x5), (6, vI x6), (7, vI x7)] [] sh ν μ 0 0 Q := by
  refine X.iload (pc := 6) (i := 7) 7 dX10_improve_6 rfl ?_
  refine X.aload_n (pc := 8) (i := 0) 0 dX10_improve_8 rfl rfl ?_
  refine X.getI (pc := 9) dX10_improve_9 fl_X10_128 rfl (fs_X10 hW) ?_
  refine X.icmp_ge (pc := 12) 161 dX10_improve_12 (by decide) ⟨fun q9 => ?_, fun q9 => ?_⟩
  · have h := h.1 q9
    refine X.iload (pc := 161) (i := 6) 6 dX10_improve_161 rfl ?_
    obtain ⟨c1, h⟩ := h
    exact X.zret (pc := 163) dX10_improve_163 rfl c1 (Nat.le_of_ble_eq_true rfl) (Nat.le_of_ble_eq_true rfl) h
  · have h := h.2 q9
    refine X.iload_n (pc := 15) (i := 1) 1 dX10_improve_15 rfl rfl ?_
    refine X.aload_n (pc := 16) (i := 0) 0 dX10_improve_16 rfl rfl ?_
    refine X.getR (pc := 17) (b := 266) dX10_improve_17 fl_X10_7 rfl (fs_X10 hW) (fp_X10_1 hW) ?_
    refine X.iload (pc := 20) (i := 7) 7 dX10_improve_20 rfl ?_
    obtain ⟨c2, h⟩ := h
    refine X.iaload (pc := 22) dX10_improve_22 (fa_X10_1 hW) c2 ?_
    refine X.iadd (pc := 23) dX10_improve_23 ?_
    refine X.istore (pc := 24) (i := 8) (ls' := [(8, vI (w32 (x1 + ((μ) 266 (Int.toNat x7))))), (0, vR 265), (1, vI x1), (2, vI x2), (3, vI x3), (4, vI x4), (5, vI x5), (6, vI x6), (7, vI x7)]) dX10_improve_24 (by decide) rfl ?_
    refine X.aload_n (pc := 26) (i := 0) 1 dX10_improve_26 rfl rfl ?_
    refine X.iload (pc := 27) (i := 7) 8 dX10_improve_27 rfl ?_
    refine X.iload_n (pc := 29) (i := 2) 3 dX10_improve_29 rfl rfl ?_
    refine X.iload_n (pc := 30) (i := 3) 4 dX10_improve_30 rfl rfl ?_
    refine X.iload (pc := 31) (i := 4) 5 dX10_improve_31 rfl ?_
    refine X.iload (pc := 33) (i := 5) 6 dX10_improve_33 rfl ?_
    refine X.pick [1, 2, 3, 4, 5, 6, 7, 8, 0] rfl ?_
    exact X.callV (pc := 35) (vs := [vI x7, vI x2, vI x3, vI x4, vI x5]) (st := []) dX10_improve_35 rfl okM_X10_tries rfl lk_X10_263 inst_X10_tries sel_X10_tries (fs_X10 hW) rfl ⟨⟨by decide, by decide⟩, ⟨by decide, by decide⟩, Nat.le_of_ble_eq_true rfl⟩ (Nat.le_of_ble_eq_true rfl) h

theorem g_X10_improve_38 {sh : List (Nat × Nat)} {ν : Nat → Nat → Option Nat} {μ : Nat → Nat → Int} {f s : Nat} {Q : xQ} (hW : WF sh ν f s) {x1 : Int} {x2 : Int} {x3 : Int} {x4 : Int} {x5 : Int} {x6 : Int} {x7 : Int} {x8 : Int} {y0 : Int}
    (h : ((y0 = 0 → X mX10_improve 155 [(0, vR 265), (1, vI x1), (2, vI x2), (3, vI x3), (4, vI x4), (5, vI x5), (6, vI x6), (7, vI x7)] [] sh (ν) (μ) 0 0 Q) ∧ (y0 ≠ 0 → (0 ≤ x8 ∧ x8 < (55688 : Nat)) ∧ ((((μ) 296 (Int.toNat x8)) = (-9) → X mX10_improve 121 [(0, vR 265), (1, vI x1), (2, vI x2), (3, vI x3), (4, vI x4), (5, vI x5), (7, vI x7), (8, vI x8)] [] sh (ν) (μ) 0 0 Q) ∧ (((μ) 296 (Int.toNat x8)) ≠ (-9) → (0 ≤ x8 ∧ x8 < (55688 : Nat)) ∧ ((((μ) 265 47) < ((μ) 294 (Int.toNat x8)) → X mX10_improve 121 [(0, vR 265), (1, vI x1), (2, vI x2), (3, vI x3), (4, vI x4), (5, vI x5), (7, vI x7), (8, vI x8)] [] sh (ν) (μ) 0 0 Q) ∧ (((μ) 294 (Int.toNat x8)) ≤ ((μ) 265 47) → (0 ≤ x8 ∧ x8 < (55688 : Nat)) ∧ ((((μ) 265 47) ≠ ((μ) 294 (Int.toNat x8)) → X mX10_improve 155 [(0, vR 265), (1, vI x1), (2, vI x2), (3, vI x3), (4, vI x4), (5, vI x5), (6, vI x6), (7, vI x7)] [] sh (ν) (μ) 0 0 Q) ∧ (((μ) 265 47) = ((μ) 294 (Int.toNat x8)) → (0 ≤ x8 ∧ x8 < (55688 : Nat)) ∧ ((((μ) 265 48) < ((μ) 295 (Int.toNat x8)) → X mX10_improve 121 [(0, vR 265), (1, vI x1), (2, vI x2), (3, vI x3), (4, vI x4), (5, vI x5), (7, vI x7), (8, vI x8)] [] sh (ν) (μ) 0 0 Q) ∧ (((μ) 295 (Int.toNat x8)) ≤ ((μ) 265 48) → (0 ≤ x8 ∧ x8 < (55688 : Nat)) ∧ ((((μ) 265 48) ≠ ((μ) 295 (Int.toNat x8)) → X mX10_improve 155 [(0, vR 265), (1, vI x1), (2, vI x2), (3, vI x3), (4, vI x4), (5, vI x5), (6, vI x6), (7, vI x7)] [] sh (ν) (μ) 0 0 Q) ∧ (((μ) 265 48) = ((μ) 295 (Int.toNat x8)) → (0 ≤ x8 ∧ x8 < (55688 : Nat)) ∧ ((((μ) 296 (Int.toNat x8)) ≤ x7 → X mX10_improve 155 [(0, vR 265), (1, vI x1), (2, vI x2), (3, vI x3), (4, vI x4), (5, vI x5), (6, vI x6), (7, vI x7)] [] sh (ν) (μ) 0 0 Q) ∧ (x7 < ((μ) 296 (Int.toNat x8)) → X mX10_improve 121 [(0, vR 265), (1, vI x1), (2, vI x2), (3, vI x3), (4, vI x4), (5, vI x5), (7, vI x7), (8, vI x8)] [] sh (ν) (μ) 0 0 Q))))))))))))))) :
    X mX10_improve 38 [(0, vR 265), (1, vI x1), (2, vI x2), (3, vI x3), (4, vI x4), (5, vI x5), (6, vI x6), (7, vI x7), (8, vI x8)] [vI y0] sh ν μ 0 0 Q := by
  refine X.if_eq (pc := 38) 155 dX10_improve_38 (by decide) ⟨fun q9 => ?_, fun q9 => ?_⟩
  · have h := h.1 q9
    exact X.pick [0, 1, 2, 3, 4, 5, 6, 7] rfl h
  · have h := h.2 q9
    refine X.aload_n (pc := 41) (i := 0) 0 dX10_improve_41 rfl rfl ?_
    refine X.getR (pc := 42) (b := 296) dX10_improve_42 fl_X10_103 rfl (fs_X10 hW) (fp_X10_41 hW) ?_
    refine X.iload (pc := 45) (i := 8) 8 dX10_improve_45 rfl ?_
    obtain ⟨c1, h⟩ := h
    refine X.iaload (pc := 47) dX10_improve_47 (fa_X10_41 hW) c1 ?_
    refine X.bipush (pc := 48) (y := -9) dX10_improve_48 rfl ⟨by decide, by decide⟩ ?_
    refine X.icmp_eq (pc := 50) 121 dX10_improve_50 (by decide) ⟨fun q9 => ?_, fun q9 => ?_⟩
    · have h := h.1 q9
      exact X.pick [0, 1, 2, 3, 4, 5, 7, 8] rfl h
    · have h := h.2 q9
      refine X.aload_n (pc := 53) (i := 0) 0 dX10_improve_53 rfl rfl ?_
      refine X.getI (pc := 54) dX10_improve_54 fl_X10_257 rfl (fs_X10 hW) ?_
      refine X.aload_n (pc := 57) (i := 0) 0 dX10_improve_57 rfl rfl ?_
      refine X.getR (pc := 58) (b := 294) dX10_improve_58 fl_X10_97 rfl (fs_X10 hW) (fp_X10_39 hW) ?_
      refine X.iload (pc := 61) (i := 8) 8 dX10_improve_61 rfl ?_
      obtain ⟨c2, h⟩ := h
      refine X.iaload (pc := 63) dX10_improve_63 (fa_X10_39 hW) c2 ?_
      refine X.icmp_lt (pc := 64) 121 dX10_improve_64 (by decide) ⟨fun q9 => ?_, fun q9 => ?_⟩
      · have h := h.1 q9
        exact X.pick [0, 1, 2, 3, 4, 5, 7, 8] rfl h
      · have h := h.2 q9
        refine X.aload_n (pc := 67) (i := 0) 0 dX10_improve_67 rfl rfl ?_
        refine X.getI (pc := 68) dX10_improve_68 fl_X10_257 rfl (fs_X10 hW) ?_
        refine X.aload_n (pc := 71) (i := 0) 0 dX10_improve_71 rfl rfl ?_
        refine X.getR (pc := 72) (b := 294) dX10_improve_72 fl_X10_97 rfl (fs_X10 hW) (fp_X10_39 hW) ?_
        refine X.iload (pc := 75) (i := 8) 8 dX10_improve_75 rfl ?_
        obtain ⟨c3, h⟩ := h
        refine X.iaload (pc := 77) dX10_improve_77 (fa_X10_39 hW) c3 ?_
        refine X.icmp_ne (pc := 78) 155 dX10_improve_78 (by decide) ⟨fun q9 => ?_, fun q9 => ?_⟩
        · have h := h.1 q9
          exact X.pick [0, 1, 2, 3, 4, 5, 6, 7] rfl h
        · have h := h.2 q9
          refine X.aload_n (pc := 81) (i := 0) 0 dX10_improve_81 rfl rfl ?_
          refine X.getI (pc := 82) dX10_improve_82 fl_X10_260 rfl (fs_X10 hW) ?_
          refine X.aload_n (pc := 85) (i := 0) 0 dX10_improve_85 rfl rfl ?_
          refine X.getR (pc := 86) (b := 295) dX10_improve_86 fl_X10_100 rfl (fs_X10 hW) (fp_X10_40 hW) ?_
          refine X.iload (pc := 89) (i := 8) 8 dX10_improve_89 rfl ?_
          obtain ⟨c4, h⟩ := h
          refine X.iaload (pc := 91) dX10_improve_91 (fa_X10_40 hW) c4 ?_
          refine X.icmp_lt (pc := 92) 121 dX10_improve_92 (by decide) ⟨fun q9 => ?_, fun q9 => ?_⟩
          · have h := h.1 q9
            exact X.pick [0, 1, 2, 3, 4, 5, 7, 8] rfl h
          · have h := h.2 q9
            refine X.aload_n (pc := 95) (i := 0) 0 dX10_improve_95 rfl rfl ?_
            refine X.getI (pc := 96) dX10_improve_96 fl_X10_260 rfl (fs_X10 hW) ?_
            refine X.aload_n (pc := 99) (i := 0) 0 dX10_improve_99 rfl rfl ?_
            refine X.getR (pc := 100) (b := 295) dX10_improve_100 fl_X10_100 rfl (fs_X10 hW) (fp_X10_40 hW) ?_
            refine X.iload (pc := 103) (i := 8) 8 dX10_improve_103 rfl ?_
            obtain ⟨c5, h⟩ := h
            refine X.iaload (pc := 105) dX10_improve_105 (fa_X10_40 hW) c5 ?_
            refine X.icmp_ne (pc := 106) 155 dX10_improve_106 (by decide) ⟨fun q9 => ?_, fun q9 => ?_⟩
            · have h := h.1 q9
              exact X.pick [0, 1, 2, 3, 4, 5, 6, 7] rfl h
            · have h := h.2 q9
              refine X.iload (pc := 109) (i := 7) 7 dX10_improve_109 rfl ?_
              refine X.aload_n (pc := 111) (i := 0) 0 dX10_improve_111 rfl rfl ?_
              refine X.getR (pc := 112) (b := 296) dX10_improve_112 fl_X10_103 rfl (fs_X10 hW) (fp_X10_41 hW) ?_
              refine X.iload (pc := 115) (i := 8) 8 dX10_improve_115 rfl ?_
              obtain ⟨c6, h⟩ := h
              refine X.iaload (pc := 117) dX10_improve_117 (fa_X10_41 hW) c6 ?_
              refine X.icmp_ge (pc := 118) 155 dX10_improve_118 (by decide) ⟨fun q9 => ?_, fun q9 => ?_⟩
              · have h := h.1 q9
                exact X.pick [0, 1, 2, 3, 4, 5, 6, 7] rfl h
              · have h := h.2 q9
                exact X.pick [0, 1, 2, 3, 4, 5, 7, 8] rfl h

theorem g_X10_improve_121 {sh : List (Nat × Nat)} {ν : Nat → Nat → Option Nat} {μ : Nat → Nat → Int} {f s : Nat} {Q : xQ} (hW : WF sh ν f s) {x1 : Int} {x2 : Int} {x3 : Int} {x4 : Int} {x5 : Int} {x7 : Int} {x8 : Int}
    (h : (0 ≤ x8 ∧ x8 < (55688 : Nat)) ∧ (0 ≤ x8 ∧ x8 < (55688 : Nat)) ∧ (0 ≤ x8 ∧ x8 < (55688 : Nat)) ∧ X mX10_improve 155 [(0, vR 265), (1, vI x1), (2, vI x2), (3, vI x3), (4, vI x4), (5, vI x5), (6, vI 1), (7, vI x7)] [] sh (ν) (up (up (up μ 294 (Int.toNat x8) ((μ) 265 47)) 295 (Int.toNat x8) ((μ) 265 48)) 296 (Int.toNat x8) x7) 0 0 Q) :
    X mX10_improve 121 [(0, vR 265), (1, vI x1), (2, vI x2), (3, vI x3), (4, vI x4), (5, vI x5), (7, vI x7), (8, vI x8)] [] sh ν μ 0 0 Q := by
  refine X.aload_n (pc := 121) (i := 0) 0 dX10_improve_121 rfl rfl ?_
  refine X.getR (pc := 122) (b := 294) dX10_improve_122 fl_X10_97 rfl (fs_X10 hW) (fp_X10_39 hW) ?_
  refine X.iload (pc := 125) (i := 8) 7 dX10_improve_125 rfl ?_
  refine X.aload_n (pc := 127) (i := 0) 0 dX10_improve_127 rfl rfl ?_
  refine X.getI (pc := 128) dX10_improve_128 fl_X10_257 rfl (fs_X10 hW) ?_
  obtain ⟨c1, h⟩ := h
  refine X.iastore (pc := 131) dX10_improve_131 (fa_X10_39 hW) c1 ?_
  refine X.aload_n (pc := 132) (i := 0) 0 dX10_improve_132 rfl rfl ?_
  refine X.getR (pc := 133) (b := 295) dX10_improve_133 fl_X10_100 rfl (fs_X10 hW) (fp_X10_40 hW) ?_
  refine X.iload (pc := 136) (i := 8) 7 dX10_improve_136 rfl ?_
  refine X.aload_n (pc := 138) (i := 0) 0 dX10_improve_138 rfl rfl ?_
  refine X.getI (pc := 139) dX10_improve_139 fl_X10_260 rfl (fs_X10 hW) ?_
  refine X.topI (y := ((μ) 265 48)) ((up_a (by decide) _)) ?_
  obtain ⟨c2, h⟩ := h
  refine X.iastore (pc := 142) dX10_improve_142 (fa_X10_40 hW) c2 ?_
  refine X.aload_n (pc := 143) (i := 0) 0 dX10_improve_143 rfl rfl ?_
  refine X.getR (pc := 144) (b := 296) dX10_improve_144 fl_X10_103 rfl (fs_X10 hW) (fp_X10_41 hW) ?_
  refine X.iload (pc := 147) (i := 8) 7 dX10_improve_147 rfl ?_
  refine X.iload (pc := 149) (i := 7) 6 dX10_improve_149 rfl ?_
  obtain ⟨c3, h⟩ := h
  refine X.iastore (pc := 151) dX10_improve_151 (fa_X10_41 hW) c3 ?_
  refine X.iconst (pc := 152) dX10_improve_152 ⟨by decide, by decide⟩ ?_
  refine X.istore (pc := 153) (i := 6) (ls' := [(6, vI 1), (0, vR 265), (1, vI x1), (2, vI x2), (3, vI x3), (4, vI x4), (5, vI x5), (7, vI x7), (8, vI x8)]) dX10_improve_153 (by decide) rfl ?_
  exact X.pick [1, 2, 3, 4, 5, 6, 0, 7] rfl h

theorem g_X10_improve_155 {sh : List (Nat × Nat)} {ν : Nat → Nat → Option Nat} {μ : Nat → Nat → Int} {f s : Nat} {Q : xQ} (hW : WF sh ν f s) {x1 : Int} {x2 : Int} {x3 : Int} {x4 : Int} {x5 : Int} {x6 : Int} {x7 : Int}
    (h : X mX10_improve 6 [(0, vR 265), (1, vI x1), (2, vI x2), (3, vI x3), (4, vI x4), (5, vI x5), (6, vI x6), (7, vI (w32 (x7 + 1)))] [] sh (ν) (μ) 0 0 Q) :
    X mX10_improve 155 [(0, vR 265), (1, vI x1), (2, vI x2), (3, vI x3), (4, vI x4), (5, vI x5), (6, vI x6), (7, vI x7)] [] sh ν μ 0 0 Q := by
  refine X.iinc (pc := 155) (i := 7) (ls' := [(7, vI (w32 (x7 + 1))), (0, vR 265), (1, vI x1), (2, vI x2), (3, vI x3), (4, vI x4), (5, vI x5), (6, vI x6)]) 7 dX10_improve_155 rfl (by decide) rfl ?_
  refine X.goto (pc := 158) (tgt := 6) dX10_improve_158 (by decide) ?_
  exact X.pick [1, 2, 3, 4, 5, 6, 7, 0] rfl h

theorem g_X10_work_0 {sh : List (Nat × Nat)} {ν : Nat → Nat → Option Nat} {μ : Nat → Nat → Int} {f s : Nat} {Q : xQ} (hW : WF sh ν f s) {x1 : Int} {x2 : Int} {x3 : Int} {x4 : Int}
    (h : ((0 : Int) ≤ x1 ∧ (x1 : Int) ≤ 20) ∧ ((0 : Int) ≤ x2 ∧ (x2 : Int) ≤ 20) ∧ ((1 : Int) ≤ x3 ∧ (x3 : Int) ≤ 20) ∧ ((1 : Int) ≤ x4 ∧ (x4 : Int) ≤ 20) ∧ X mX10_work 14 [(0, vR 265), (1, vI x1), (2, vI x2), (3, vI x3), (4, vI x4), (5, vI (plF ((μ) 265 42) x1 x2 x3 x4)), (6, vI 0)] [] sh (ν) (μ) 0 0 Q) :
    X mX10_work 0 [(0, vR 265), (1, vI x1), (2, vI x2), (3, vI x3), (4, vI x4)] [] sh ν μ 0 0 Q := by
  refine X.aload_n (pc := 0) (i := 0) 0 dX10_work_0 rfl rfl ?_
  refine X.iload_n (pc := 1) (i := 1) 1 dX10_work_1 rfl rfl ?_
  refine X.iload_n (pc := 2) (i := 2) 2 dX10_work_2 rfl rfl ?_
  refine X.iload_n (pc := 3) (i := 3) 3 dX10_work_3 rfl rfl ?_
  refine X.iload (pc := 4) (i := 4) 4 dX10_work_4 rfl ?_
  obtain ⟨c1, h⟩ := h
  obtain ⟨c2, h⟩ := h
  obtain ⟨c3, h⟩ := h
  obtain ⟨c4, h⟩ := h
  refine X.callV (pc := 6) (vs := [vI x1, vI x2, vI x3, vI x4]) (st := []) dX10_work_6 rfl okM_X10_place rfl lk_X10_245 inst_X10_place sel_X10_place (fs_X10 hW) rfl ⟨⟨by decide, by decide⟩, ⟨by decide, by decide⟩, Nat.le_of_ble_eq_true rfl⟩ (Nat.le_of_ble_eq_true rfl) (c_X10_place hW c1 c2 c3 c4 ?_)
  refine X.nrm (pc' := 9) (ls' := [(0, vR 265), (1, vI x1), (2, vI x2), (3, vI x3), (4, vI x4)]) (st' := [vI (plF ((μ) 265 42) x1 x2 x3 x4)]) (k' := 0) (n' := 0) rfl rfl rfl rfl rfl ?_
  refine X.istore (pc := 9) (i := 5) (ls' := [(5, vI (plF ((μ) 265 42) x1 x2 x3 x4)), (0, vR 265), (1, vI x1), (2, vI x2), (3, vI x3), (4, vI x4)]) dX10_work_9 (by decide) rfl ?_
  refine X.iconst (pc := 11) dX10_work_11 ⟨by decide, by decide⟩ ?_
  refine X.istore (pc := 12) (i := 6) (ls' := [(6, vI 0), (5, vI (plF ((μ) 265 42) x1 x2 x3 x4)), (0, vR 265), (1, vI x1), (2, vI x2), (3, vI x3), (4, vI x4)]) dX10_work_12 (by decide) rfl ?_
  exact X.pick [2, 3, 4, 5, 6, 1, 0] rfl h

theorem g_X10_work_14 {sh : List (Nat × Nat)} {ν : Nat → Nat → Option Nat} {μ : Nat → Nat → Int} {f s : Nat} {Q : xQ} (hW : WF sh ν f s) {x1 : Int} {x2 : Int} {x3 : Int} {x4 : Int} {x5 : Int} {x6 : Int}
    (h : ((8 ≤ x6 → X mX10_work 50 [(0, vR 265), (1, vI x1), (2, vI x2), (3, vI x3), (4, vI x4), (5, vI x5), (6, vI 0)] [] sh (ν) (μ) 0 0 Q) ∧ (x6 < 8 → (0 ≤ x6 ∧ x6 < (8 : Nat)) ∧ (0 ≤ (w32 (x5 + x6)) ∧ (w32 (x5 + x6)) < (55688 : Nat)) ∧ X mX10_work 14 [(0, vR 265), (1, vI x1), (2, vI x2), (3, vI x3), (4, vI x4), (5, vI x5), (6, vI (w32 (x6 + 1)))] [] sh (ν) (up (up μ 297 (Int.toNat x6) 0) 296 (Int.toNat (w32 (x5 + x6))) (-9)) 0 0 Q))) :
    X mX10_work 14 [(0, vR 265), (1, vI x1), (2, vI x2), (3, vI x3), (4, vI x4), (5, vI x5), (6, vI x6)] [] sh ν μ 0 0 Q := by
  refine X.iload (pc := 14) (i := 6) 6 dX10_work_14 rfl ?_
  refine X.bipush (pc := 16) (y := 8) dX10_work_16 rfl ⟨by decide, by decide⟩ ?_
  refine X.icmp_ge (pc := 18) 47 dX10_work_18 (by decide) ⟨fun q9 => ?_, fun q9 => ?_⟩
  · have h := h.1 q9
    refine X.iconst (pc := 47) dX10_work_47 ⟨by decide, by decide⟩ ?_
    refine X.istore (pc := 48) (i := 6) (ls' := [(6, vI 0), (0, vR 265), (1, vI x1), (2, vI x2), (3, vI x3), (4, vI x4), (5, vI x5)]) dX10_work_48 (by decide) rfl ?_
    exact X.pick [1, 2, 3, 4, 5, 6, 0] rfl h
  · have h := h.2 q9
    refine X.aload_n (pc := 21) (i := 0) 0 dX10_work_21 rfl rfl ?_
    refine X.getR (pc := 22) (b := 297) dX10_work_22 fl_X10_106 rfl (fs_X10 hW) (fp_X10_43 hW) ?_
    refine X.iload (pc := 25) (i := 6) 6 dX10_work_25 rfl ?_
    refine X.lconst (pc := 27) (y := 0) dX10_work_27 rfl ⟨by decide, by decide⟩ ?_
    obtain ⟨c1, h⟩ := h
    refine X.lastore (pc := 28) dX10_work_28 (fa_X10_43 hW) c1 ?_
    refine X.aload_n (pc := 29) (i := 0) 0 dX10_work_29 rfl rfl ?_
    refine X.getR (pc := 30) (b := 296) dX10_work_30 fl_X10_103 rfl (fs_X10 hW) (fp_X10_41 hW) ?_
    refine X.iload (pc := 33) (i := 5) 5 dX10_work_33 rfl ?_
    refine X.iload (pc := 35) (i := 6) 6 dX10_work_35 rfl ?_
    refine X.iadd (pc := 37) dX10_work_37 ?_
    refine X.bipush (pc := 38) (y := -9) dX10_work_38 rfl ⟨by decide, by decide⟩ ?_
    obtain ⟨c2, h⟩ := h
    refine X.iastore (pc := 40) dX10_work_40 (fa_X10_41 hW) c2 ?_
    refine X.iinc (pc := 41) (i := 6) (ls' := [(6, vI (w32 (x6 + 1))), (0, vR 265), (1, vI x1), (2, vI x2), (3, vI x3), (4, vI x4), (5, vI x5)]) 6 dX10_work_41 rfl (by decide) rfl ?_
    refine X.goto (pc := 44) (tgt := 14) dX10_work_44 (by decide) ?_
    exact X.pick [1, 2, 3, 4, 5, 6, 0] rfl h

theorem g_X10_work_50 {sh : List (Nat × Nat)} {ν : Nat → Nat → Option Nat} {μ : Nat → Nat → Int} {f s : Nat} {Q : xQ} (hW : WF sh ν f s) {x1 : Int} {x2 : Int} {x3 : Int} {x4 : Int} {x5 : Int} {x6 : Int}
    (h : ((64 ≤ x6 → X mX10_work 74 [(0, vR 265), (1, vI x1), (2, vI x2), (3, vI x3), (4, vI x4), (5, vI x5), (6, vI 0)] [] sh (ν) (μ) 0 0 Q) ∧ (x6 < 64 → (0 ≤ x6 ∧ x6 < (64 : Nat)) ∧ X mX10_work 50 [(0, vR 265), (1, vI x1), (2, vI x2), (3, vI x3), (4, vI x4), (5, vI x5), (6, vI (w32 (x6 + 1)))] [] sh (ν) (up μ 298 (Int.toNat x6) 0) 0 0 Q))) :
    X mX10_work 50 [(0, vR 265), (1, vI x1), (2, vI x2), (3, vI x3), (4, vI x4), (5, vI x5), (6, vI x6)] [] sh ν μ 0 0 Q := by
  refine X.iload (pc := 50) (i := 6) 6 dX10_work_50 rfl ?_
  refine X.bipush (pc := 52) (y := 64) dX10_work_52 rfl ⟨by decide, by decide⟩ ?_
  refine X.icmp_ge (pc := 54) 71 dX10_work_54 (by decide) ⟨fun q9 => ?_, fun q9 => ?_⟩
  · have h := h.1 q9
    refine X.iconst (pc := 71) dX10_work_71 ⟨by decide, by decide⟩ ?_
    refine X.istore (pc := 72) (i := 6) (ls' := [(6, vI 0), (0, vR 265), (1, vI x1), (2, vI x2), (3, vI x3), (4, vI x4), (5, vI x5)]) dX10_work_72 (by decide) rfl ?_
    exact X.pick [1, 2, 3, 4, 5, 6, 0] rfl h
  · have h := h.2 q9
    refine X.aload_n (pc := 57) (i := 0) 0 dX10_work_57 rfl rfl ?_
    refine X.getR (pc := 58) (b := 298) dX10_work_58 fl_X10_109 rfl (fs_X10 hW) (fp_X10_44 hW) ?_
    refine X.iload (pc := 61) (i := 6) 6 dX10_work_61 rfl ?_
    refine X.iconst (pc := 63) dX10_work_63 ⟨by decide, by decide⟩ ?_
    obtain ⟨c1, h⟩ := h
    refine X.iastore (pc := 64) dX10_work_64 (fa_X10_44 hW) c1 ?_
    refine X.iinc (pc := 65) (i := 6) (ls' := [(6, vI (w32 (x6 + 1))), (0, vR 265), (1, vI x1), (2, vI x2), (3, vI x3), (4, vI x4), (5, vI x5)]) 6 dX10_work_65 rfl (by decide) rfl ?_
    refine X.goto (pc := 68) (tgt := 50) dX10_work_68 (by decide) ?_
    exact X.pick [1, 2, 3, 4, 5, 6, 0] rfl h

theorem g_X10_work_74 {sh : List (Nat × Nat)} {ν : Nat → Nat → Option Nat} {μ : Nat → Nat → Int} {f s : Nat} {Q : xQ} (hW : WF sh ν f s) {x1 : Int} {x2 : Int} {x3 : Int} {x4 : Int} {x5 : Int} {x6 : Int}
    (h : ((((μ) 265 0) ≤ x6 → X mX10_sum 0 [(0, vR 265), (1, vI x5)] [] sh (ν) (μ) 0 0 (fun v sh' ν' μ' => X mX10_work 106 [(0, vR 265), (1, vI x1), (2, vI x2), (3, vI x3), (4, vI x4), (5, vI x5)] (v.toList ++ []) sh' ν' μ' 0 0 Q)) ∧ (x6 < ((μ) 265 0) → X mX10_count 0 [(0, vR 265), (1, vI x6), (2, vI x1), (3, vI x2), (4, vI x3), (5, vI x4)] [] sh (ν) (μ) 0 0 (fun v sh' ν' μ' => X mX10_work 94 [(0, vR 265), (1, vI x1), (2, vI x2), (3, vI x3), (4, vI x4), (5, vI x5), (6, vI x6)] (v.toList ++ []) sh' ν' μ' 0 0 Q)))) :
    X mX10_work 74 [(0, vR 265), (1, vI x1), (2, vI x2), (3, vI x3), (4, vI x4), (5, vI x5), (6, vI x6)] [] sh ν μ 0 0 Q := by
  refine X.iload (pc := 74) (i := 6) 6 dX10_work_74 rfl ?_
  refine X.aload_n (pc := 76) (i := 0) 0 dX10_work_76 rfl rfl ?_
  refine X.getI (pc := 77) dX10_work_77 fl_X10_128 rfl (fs_X10 hW) ?_
  refine X.icmp_ge (pc := 80) 100 dX10_work_80 (by decide) ⟨fun q9 => ?_, fun q9 => ?_⟩
  · have h := h.1 q9
    refine X.aload_n (pc := 100) (i := 0) 0 dX10_work_100 rfl rfl ?_
    refine X.iload (pc := 101) (i := 5) 5 dX10_work_101 rfl ?_
    refine X.pick [0, 1, 2, 3, 4, 5] rfl ?_
    exact X.callV (pc := 103) (vs := [vI x5]) (st := []) dX10_work_103 rfl okM_X10_sum rfl lk_X10_269 inst_X10_sum sel_X10_sum (fs_X10 hW) rfl ⟨⟨by decide, by decide⟩, ⟨by decide, by decide⟩, Nat.le_of_ble_eq_true rfl⟩ (Nat.le_of_ble_eq_true rfl) h
  · have h := h.2 q9
    refine X.aload_n (pc := 83) (i := 0) 0 dX10_work_83 rfl rfl ?_
    refine X.iload (pc := 84) (i := 6) 6 dX10_work_84 rfl ?_
    refine X.iload_n (pc := 86) (i := 1) 1 dX10_work_86 rfl rfl ?_
    refine X.iload_n (pc := 87) (i := 2) 2 dX10_work_87 rfl rfl ?_
    refine X.iload_n (pc := 88) (i := 3) 3 dX10_work_88 rfl rfl ?_
    refine X.iload (pc := 89) (i := 4) 4 dX10_work_89 rfl ?_
    exact X.callV (pc := 91) (vs := [vI x6, vI x1, vI x2, vI x3, vI x4]) (st := []) dX10_work_91 rfl okM_X10_count rfl lk_X10_266 inst_X10_count sel_X10_count (fs_X10 hW) rfl ⟨⟨by decide, by decide⟩, ⟨by decide, by decide⟩, Nat.le_of_ble_eq_true rfl⟩ (Nat.le_of_ble_eq_true rfl) h

theorem g_X10_work_94 {sh : List (Nat × Nat)} {ν : Nat → Nat → Option Nat} {μ : Nat → Nat → Int} {f s : Nat} {Q : xQ} (hW : WF sh ν f s) {x1 : Int} {x2 : Int} {x3 : Int} {x4 : Int} {x5 : Int} {x6 : Int}
    (h : X mX10_work 74 [(0, vR 265), (1, vI x1), (2, vI x2), (3, vI x3), (4, vI x4), (5, vI x5), (6, vI (w32 (x6 + 1)))] [] sh (ν) (μ) 0 0 Q) :
    X mX10_work 94 [(0, vR 265), (1, vI x1), (2, vI x2), (3, vI x3), (4, vI x4), (5, vI x5), (6, vI x6)] [] sh ν μ 0 0 Q := by
  refine X.iinc (pc := 94) (i := 6) (ls' := [(6, vI (w32 (x6 + 1))), (0, vR 265), (1, vI x1), (2, vI x2), (3, vI x3), (4, vI x4), (5, vI x5)]) 6 dX10_work_94 rfl (by decide) rfl ?_
  refine X.goto (pc := 97) (tgt := 74) dX10_work_97 (by decide) ?_
  exact X.pick [1, 2, 3, 4, 5, 6, 0] rfl h

theorem g_X10_work_106 {sh : List (Nat × Nat)} {ν : Nat → Nat → Option Nat} {μ : Nat → Nat → Int} {f s : Nat} {Q : xQ} (hW : WF sh ν f s) {x1 : Int} {x2 : Int} {x3 : Int} {x4 : Int} {x5 : Int}
    (h : X mX10_work 109 [(0, vR 265), (1, vI x1), (2, vI x2), (3, vI x3), (4, vI x4), (5, vI x5), (6, vI 1)] [] sh (ν) (μ) 0 0 Q) :
    X mX10_work 106 [(0, vR 265), (1, vI x1), (2, vI x2), (3, vI x3), (4, vI x4), (5, vI x5)] [] sh ν μ 0 0 Q := by
  refine X.iconst (pc := 106) dX10_work_106 ⟨by decide, by decide⟩ ?_
  refine X.istore (pc := 107) (i := 6) (ls' := [(6, vI 1), (0, vR 265), (1, vI x1), (2, vI x2), (3, vI x3), (4, vI x4), (5, vI x5)]) dX10_work_107 (by decide) rfl ?_
  exact X.pick [1, 2, 3, 4, 5, 6, 0] rfl h

theorem g_X10_work_109 {sh : List (Nat × Nat)} {ν : Nat → Nat → Option Nat} {μ : Nat → Nat → Int} {f s : Nat} {Q : xQ} (hW : WF sh ν f s) {x1 : Int} {x2 : Int} {x3 : Int} {x4 : Int} {x5 : Int} {x6 : Int}
    (h : ((x6 = 0 → Q none sh (ν) (μ)) ∧ (x6 ≠ 0 → X mX10_improve 0 [(0, vR 265), (1, vI x5), (2, vI x1), (3, vI x2), (4, vI x3), (5, vI x4)] [] sh (ν) (μ) 0 0 (fun v sh' ν' μ' => X mX10_work 125 [(0, vR 265), (1, vI x1), (2, vI x2), (3, vI x3), (4, vI x4), (5, vI x5)] (v.toList ++ []) sh' ν' μ' 0 0 Q)))) :
    X mX10_work 109 [(0, vR 265), (1, vI x1), (2, vI x2), (3, vI x3), (4, vI x4), (5, vI x5), (6, vI x6)] [] sh ν μ 0 0 Q := by
  refine X.iload (pc := 109) (i := 6) 6 dX10_work_109 rfl ?_
  refine X.if_eq (pc := 111) 130 dX10_work_111 (by decide) ⟨fun q9 => ?_, fun q9 => ?_⟩
  · have h := h.1 q9
    exact X.vret (pc := 130) dX10_work_130 rfl (Nat.le_of_ble_eq_true rfl) (Nat.le_of_ble_eq_true rfl) h
  · have h := h.2 q9
    refine X.aload_n (pc := 114) (i := 0) 0 dX10_work_114 rfl rfl ?_
    refine X.iload (pc := 115) (i := 5) 5 dX10_work_115 rfl ?_
    refine X.iload_n (pc := 117) (i := 1) 1 dX10_work_117 rfl rfl ?_
    refine X.iload_n (pc := 118) (i := 2) 2 dX10_work_118 rfl rfl ?_
    refine X.iload_n (pc := 119) (i := 3) 3 dX10_work_119 rfl rfl ?_
    refine X.iload (pc := 120) (i := 4) 4 dX10_work_120 rfl ?_
    refine X.pick [0, 1, 2, 3, 4, 5] rfl ?_
    exact X.callV (pc := 122) (vs := [vI x5, vI x1, vI x2, vI x3, vI x4]) (st := []) dX10_work_122 rfl okM_X10_improve rfl lk_X10_273 inst_X10_improve sel_X10_improve (fs_X10 hW) rfl ⟨⟨by decide, by decide⟩, ⟨by decide, by decide⟩, Nat.le_of_ble_eq_true rfl⟩ (Nat.le_of_ble_eq_true rfl) h

theorem g_X10_work_125 {sh : List (Nat × Nat)} {ν : Nat → Nat → Option Nat} {μ : Nat → Nat → Int} {f s : Nat} {Q : xQ} (hW : WF sh ν f s) {x1 : Int} {x2 : Int} {x3 : Int} {x4 : Int} {x5 : Int} {y0 : Int}
    (h : X mX10_work 109 [(0, vR 265), (1, vI x1), (2, vI x2), (3, vI x3), (4, vI x4), (5, vI x5), (6, vI y0)] [] sh (ν) (μ) 0 0 Q) :
    X mX10_work 125 [(0, vR 265), (1, vI x1), (2, vI x2), (3, vI x3), (4, vI x4), (5, vI x5)] [vI y0] sh ν μ 0 0 Q := by
  refine X.istore (pc := 125) (i := 6) (ls' := [(6, vI y0), (0, vR 265), (1, vI x1), (2, vI x2), (3, vI x3), (4, vI x4), (5, vI x5)]) dX10_work_125 (by decide) rfl ?_
  refine X.goto (pc := 127) (tgt := 109) dX10_work_127 (by decide) ?_
  exact X.pick [1, 2, 3, 4, 5, 6, 0] rfl h

theorem g_X10_workScopes_0 {sh : List (Nat × Nat)} {ν : Nat → Nat → Option Nat} {μ : Nat → Nat → Int} {f s : Nat} {Q : xQ} (hW : WF sh ν f s) 
    (h : X mX10_workScopes 7 [(0, vR 265), (1, vI 1)] [] sh (ν) (up μ 265 42 0) 0 0 Q) :
    X mX10_workScopes 0 [(0, vR 265)] [] sh ν μ 0 0 Q := by
  refine X.aload_n (pc := 0) (i := 0) 0 dX10_workScopes_0 rfl rfl ?_
  refine X.iconst (pc := 1) dX10_workScopes_1 ⟨by decide, by decide⟩ ?_
  refine X.putI (pc := 2) dX10_workScopes_2 fl_X10_229 rfl (fun h9 => by cases h9) (fs_X10 hW) (Or.inr (Or.inl rfl)) ?_
  refine X.iconst (pc := 5) dX10_workScopes_5 ⟨by decide, by decide⟩ ?_
  refine X.istore_n (pc := 6) (i := 1) (ls' := [(1, vI 1), (0, vR 265)]) dX10_workScopes_6 rfl (by decide) rfl ?_
  exact X.pick [1, 0] rfl h

theorem g_X10_workScopes_7 {sh : List (Nat × Nat)} {ν : Nat → Nat → Option Nat} {μ : Nat → Nat → Int} {f s : Nat} {Q : xQ} (hW : WF sh ν f s) {x1 : Int}
    (h : ((20 < x1 → X mX10_workScopes 48 [(0, vR 265)] [] sh (ν) (μ) 0 0 Q) ∧ (x1 ≤ 20 → ((((μ) 265 49) ≠ 0 → X mX10_workScopes 48 [(0, vR 265)] [] sh (ν) (μ) 0 0 Q) ∧ (((μ) 265 49) = 0 → X mX10_workScopes 22 [(0, vR 265), (1, vI x1), (2, vI 1)] [] sh (ν) (μ) 0 0 Q))))) :
    X mX10_workScopes 7 [(0, vR 265), (1, vI x1)] [] sh ν μ 0 0 Q := by
  refine X.iload_n (pc := 7) (i := 1) 1 dX10_workScopes_7 rfl rfl ?_
  refine X.bipush (pc := 8) (y := 20) dX10_workScopes_8 rfl ⟨by decide, by decide⟩ ?_
  refine X.icmp_gt (pc := 10) 48 dX10_workScopes_10 (by decide) ⟨fun q9 => ?_, fun q9 => ?_⟩
  · have h := h.1 q9
    exact X.pick [0] rfl h
  · have h := h.2 q9
    refine X.aload_n (pc := 13) (i := 0) 0 dX10_workScopes_13 rfl rfl ?_
    refine X.getI (pc := 14) dX10_workScopes_14 fl_X10_276 rfl (fs_X10 hW) ?_
    refine X.if_ne (pc := 17) 48 dX10_workScopes_17 (by decide) ⟨fun q9 => ?_, fun q9 => ?_⟩
    · have h := h.1 q9
      exact X.pick [0] rfl h
    · have h := h.2 q9
      refine X.iconst (pc := 20) dX10_workScopes_20 ⟨by decide, by decide⟩ ?_
      refine X.istore_n (pc := 21) (i := 2) (ls' := [(2, vI 1), (0, vR 265), (1, vI x1)]) dX10_workScopes_21 rfl (by decide) rfl ?_
      exact X.pick [1, 2, 0] rfl h

theorem g_X10_workScopes_22 {sh : List (Nat × Nat)} {ν : Nat → Nat → Option Nat} {μ : Nat → Nat → Int} {f s : Nat} {Q : xQ} (hW : WF sh ν f s) {x1 : Int} {x2 : Int}
    (h : ((20 < x2 → X mX10_workScopes 7 [(0, vR 265), (1, vI (w32 (x1 + 1)))] [] sh (ν) (μ) 0 0 Q) ∧ (x2 ≤ 20 → X mX10_work 0 [(0, vR 265), (1, vI 0), (2, vI 0), (3, vI x2), (4, vI x1)] [] sh (ν) (μ) 0 0 (fun v sh' ν' μ' => X mX10_workScopes 36 [(0, vR 265), (1, vI x1), (2, vI x2)] (v.toList ++ []) sh' ν' μ' 0 0 Q)))) :
    X mX10_workScopes 22 [(0, vR 265), (1, vI x1), (2, vI x2)] [] sh ν μ 0 0 Q := by
  refine X.iload_n (pc := 22) (i := 2) 2 dX10_workScopes_22 rfl rfl ?_
  refine X.bipush (pc := 23) (y := 20) dX10_workScopes_23 rfl ⟨by decide, by decide⟩ ?_
  refine X.icmp_gt (pc := 25) 42 dX10_workScopes_25 (by decide) ⟨fun q9 => ?_, fun q9 => ?_⟩
  · have h := h.1 q9
    refine X.iinc (pc := 42) (i := 1) (ls' := [(1, vI (w32 (x1 + 1))), (0, vR 265), (2, vI x2)]) 1 dX10_workScopes_42 rfl (by decide) rfl ?_
    refine X.goto (pc := 45) (tgt := 7) dX10_workScopes_45 (by decide) ?_
    exact X.pick [1, 0] rfl h
  · have h := h.2 q9
    refine X.aload_n (pc := 28) (i := 0) 0 dX10_workScopes_28 rfl rfl ?_
    refine X.iconst (pc := 29) dX10_workScopes_29 ⟨by decide, by decide⟩ ?_
    refine X.iconst (pc := 30) dX10_workScopes_30 ⟨by decide, by decide⟩ ?_
    refine X.iload_n (pc := 31) (i := 2) 2 dX10_workScopes_31 rfl rfl ?_
    refine X.iload_n (pc := 32) (i := 1) 1 dX10_workScopes_32 rfl rfl ?_
    exact X.callV (pc := 33) (vs := [vI 0, vI 0, vI x2, vI x1]) (st := []) dX10_workScopes_33 rfl okM_X10_work rfl lk_X10_279 inst_X10_work sel_X10_work (fs_X10 hW) rfl ⟨⟨by decide, by decide⟩, ⟨by decide, by decide⟩, Nat.le_of_ble_eq_true rfl⟩ (Nat.le_of_ble_eq_true rfl) h

theorem g_X10_workScopes_36 {sh : List (Nat × Nat)} {ν : Nat → Nat → Option Nat} {μ : Nat → Nat → Int} {f s : Nat} {Q : xQ} (hW : WF sh ν f s) {x1 : Int} {x2 : Int}
    (h : X mX10_workScopes 22 [(0, vR 265), (1, vI x1), (2, vI (w32 (x2 + 1)))] [] sh (ν) (μ) 0 0 Q) :
    X mX10_workScopes 36 [(0, vR 265), (1, vI x1), (2, vI x2)] [] sh ν μ 0 0 Q := by
  refine X.iinc (pc := 36) (i := 2) (ls' := [(2, vI (w32 (x2 + 1))), (0, vR 265), (1, vI x1)]) 2 dX10_workScopes_36 rfl (by decide) rfl ?_
  refine X.goto (pc := 39) (tgt := 22) dX10_workScopes_39 (by decide) ?_
  exact X.pick [1, 2, 0] rfl h

theorem g_X10_workScopes_48 {sh : List (Nat × Nat)} {ν : Nat → Nat → Option Nat} {μ : Nat → Nat → Int} {f s : Nat} {Q : xQ} (hW : WF sh ν f s) 
    (h : Q none sh (ν) (up μ 265 49 1)) :
    X mX10_workScopes 48 [(0, vR 265)] [] sh ν μ 0 0 Q := by
  refine X.aload_n (pc := 48) (i := 0) 0 dX10_workScopes_48 rfl rfl ?_
  refine X.iconst (pc := 49) dX10_workScopes_49 ⟨by decide, by decide⟩ ?_
  refine X.putI (pc := 50) dX10_workScopes_50 fl_X10_276 rfl (fun h9 => by cases h9) (fs_X10 hW) (Or.inr (Or.inr rfl)) ?_
  exact X.vret (pc := 53) dX10_workScopes_53 rfl (Nat.le_of_ble_eq_true rfl) (Nat.le_of_ble_eq_true rfl) h

theorem g_X10_workBoard_0 {sh : List (Nat × Nat)} {ν : Nat → Nat → Option Nat} {μ : Nat → Nat → Int} {f s : Nat} {Q : xQ} (hW : WF sh ν f s) 
    (h : ((((μ) 265 50) = 0 → X mX10_workBoard 20 [(0, vR 265), (1, vI 1)] [] sh (ν) (up (up μ 265 42 1) 265 50 1) 0 0 Q) ∧ (((μ) 265 50) ≠ 0 → Q none sh (ν) (up μ 265 42 1)))) :
    X mX10_workBoard 0 [(0, vR 265)] [] sh ν μ 0 0 Q := by
  refine X.aload_n (pc := 0) (i := 0) 0 dX10_workBoard_0 rfl rfl ?_
  refine X.iconst (pc := 1) dX10_workBoard_1 ⟨by decide, by decide⟩ ?_
  refine X.putI (pc := 2) dX10_workBoard_2 fl_X10_229 rfl (fun h9 => by cases h9) (fs_X10 hW) (Or.inr (Or.inr rfl)) ?_
  refine X.aload_n (pc := 5) (i := 0) 0 dX10_workBoard_5 rfl rfl ?_
  refine X.getI (pc := 6) dX10_workBoard_6 fl_X10_214 rfl (fs_X10 hW) ?_
  refine X.topI (y := ((μ) 265 50)) ((up_k (by decide) _)) ?_
  refine X.if_eq (pc := 9) 13 dX10_workBoard_9 (by decide) ⟨fun q9 => ?_, fun q9 => ?_⟩
  · have h := h.1 q9
    refine X.aload_n (pc := 13) (i := 0) 0 dX10_workBoard_13 rfl rfl ?_
    refine X.iconst (pc := 14) dX10_workBoard_14 ⟨by decide, by decide⟩ ?_
    refine X.putI (pc := 15) dX10_workBoard_15 fl_X10_214 rfl (fun h9 => by cases h9) (fs_X10 hW) (Or.inr (Or.inr rfl)) ?_
    refine X.iconst (pc := 18) dX10_workBoard_18 ⟨by decide, by decide⟩ ?_
    refine X.istore_n (pc := 19) (i := 1) (ls' := [(1, vI 1), (0, vR 265)]) dX10_workBoard_19 rfl (by decide) rfl ?_
    exact X.pick [1, 0] rfl h
  · have h := h.2 q9
    exact X.vret (pc := 12) dX10_workBoard_12 rfl (Nat.le_of_ble_eq_true rfl) (Nat.le_of_ble_eq_true rfl) h

theorem g_X10_workBoard_20 {sh : List (Nat × Nat)} {ν : Nat → Nat → Option Nat} {μ : Nat → Nat → Int} {f s : Nat} {Q : xQ} (hW : WF sh ν f s) {x1 : Int}
    (h : ((((μ) 265 36) < x1 → Q none sh (ν) (μ)) ∧ (x1 ≤ ((μ) 265 36) → X mX10_workBoard 30 [(0, vR 265), (1, vI x1), (2, vI 1)] [] sh (ν) (μ) 0 0 Q))) :
    X mX10_workBoard 20 [(0, vR 265), (1, vI x1)] [] sh ν μ 0 0 Q := by
  refine X.iload_n (pc := 20) (i := 1) 1 dX10_workBoard_20 rfl rfl ?_
  refine X.aload_n (pc := 21) (i := 0) 0 dX10_workBoard_21 rfl rfl ?_
  refine X.getI (pc := 22) dX10_workBoard_22 fl_X10_221 rfl (fs_X10 hW) ?_
  refine X.icmp_gt (pc := 25) 97 dX10_workBoard_25 (by decide) ⟨fun q9 => ?_, fun q9 => ?_⟩
  · have h := h.1 q9
    exact X.vret (pc := 97) dX10_workBoard_97 rfl (Nat.le_of_ble_eq_true rfl) (Nat.le_of_ble_eq_true rfl) h
  · have h := h.2 q9
    refine X.iconst (pc := 28) dX10_workBoard_28 ⟨by decide, by decide⟩ ?_
    refine X.istore_n (pc := 29) (i := 2) (ls' := [(2, vI 1), (0, vR 265), (1, vI x1)]) dX10_workBoard_29 rfl (by decide) rfl ?_
    exact X.pick [1, 2, 0] rfl h

theorem g_X10_workBoard_30 {sh : List (Nat × Nat)} {ν : Nat → Nat → Option Nat} {μ : Nat → Nat → Int} {f s : Nat} {Q : xQ} (hW : WF sh ν f s) {x1 : Int} {x2 : Int}
    (h : ((((μ) 265 35) < x2 → X mX10_workBoard 20 [(0, vR 265), (1, vI (w32 (x1 + 1)))] [] sh (ν) (μ) 0 0 Q) ∧ (x2 ≤ ((μ) 265 35) → X mX10_workBoard 40 [(0, vR 265), (1, vI x1), (2, vI x2), (3, vI 0)] [] sh (ν) (μ) 0 0 Q))) :
    X mX10_workBoard 30 [(0, vR 265), (1, vI x1), (2, vI x2)] [] sh ν μ 0 0 Q := by
  refine X.iload_n (pc := 30) (i := 2) 2 dX10_workBoard_30 rfl rfl ?_
  refine X.aload_n (pc := 31) (i := 0) 0 dX10_workBoard_31 rfl rfl ?_
  refine X.getI (pc := 32) dX10_workBoard_32 fl_X10_218 rfl (fs_X10 hW) ?_
  refine X.icmp_gt (pc := 35) 91 dX10_workBoard_35 (by decide) ⟨fun q9 => ?_, fun q9 => ?_⟩
  · have h := h.1 q9
    refine X.iinc (pc := 91) (i := 1) (ls' := [(1, vI (w32 (x1 + 1))), (0, vR 265), (2, vI x2)]) 1 dX10_workBoard_91 rfl (by decide) rfl ?_
    refine X.goto (pc := 94) (tgt := 20) dX10_workBoard_94 (by decide) ?_
    exact X.pick [1, 0] rfl h
  · have h := h.2 q9
    refine X.iconst (pc := 38) dX10_workBoard_38 ⟨by decide, by decide⟩ ?_
    refine X.istore_n (pc := 39) (i := 3) (ls' := [(3, vI 0), (0, vR 265), (1, vI x1), (2, vI x2)]) dX10_workBoard_39 rfl (by decide) rfl ?_
    exact X.pick [1, 2, 3, 0] rfl h

theorem g_X10_workBoard_40 {sh : List (Nat × Nat)} {ν : Nat → Nat → Option Nat} {μ : Nat → Nat → Int} {f s : Nat} {Q : xQ} (hW : WF sh ν f s) {x1 : Int} {x2 : Int} {x3 : Int}
    (h : ((((μ) 265 36) < (w32 (x3 + x1)) → X mX10_workBoard 30 [(0, vR 265), (1, vI x1), (2, vI (w32 (x2 + 1)))] [] sh (ν) (μ) 0 0 Q) ∧ ((w32 (x3 + x1)) ≤ ((μ) 265 36) → X mX10_workBoard 53 [(0, vR 265), (1, vI x1), (2, vI x2), (3, vI x3), (4, vI 0)] [] sh (ν) (μ) 0 0 Q))) :
    X mX10_workBoard 40 [(0, vR 265), (1, vI x1), (2, vI x2), (3, vI x3)] [] sh ν μ 0 0 Q := by
  refine X.iload_n (pc := 40) (i := 3) 3 dX10_workBoard_40 rfl rfl ?_
  refine X.iload_n (pc := 41) (i := 1) 1 dX10_workBoard_41 rfl rfl ?_
  refine X.iadd (pc := 42) dX10_workBoard_42 ?_
  refine X.aload_n (pc := 43) (i := 0) 0 dX10_workBoard_43 rfl rfl ?_
  refine X.getI (pc := 44) dX10_workBoard_44 fl_X10_221 rfl (fs_X10 hW) ?_
  refine X.icmp_gt (pc := 47) 85 dX10_workBoard_47 (by decide) ⟨fun q9 => ?_, fun q9 => ?_⟩
  · have h := h.1 q9
    refine X.iinc (pc := 85) (i := 2) (ls' := [(2, vI (w32 (x2 + 1))), (0, vR 265), (1, vI x1), (3, vI x3)]) 2 dX10_workBoard_85 rfl (by decide) rfl ?_
    refine X.goto (pc := 88) (tgt := 30) dX10_workBoard_88 (by decide) ?_
    exact X.pick [1, 2, 0] rfl h
  · have h := h.2 q9
    refine X.iconst (pc := 50) dX10_workBoard_50 ⟨by decide, by decide⟩ ?_
    refine X.istore (pc := 51) (i := 4) (ls' := [(4, vI 0), (0, vR 265), (1, vI x1), (2, vI x2), (3, vI x3)]) dX10_workBoard_51 (by decide) rfl ?_
    exact X.pick [1, 2, 3, 4, 0] rfl h

theorem g_X10_workBoard_53 {sh : List (Nat × Nat)} {ν : Nat → Nat → Option Nat} {μ : Nat → Nat → Int} {f s : Nat} {Q : xQ} (hW : WF sh ν f s) {x1 : Int} {x2 : Int} {x3 : Int} {x4 : Int}
    (h : ((((μ) 265 35) < (w32 (x4 + x2)) → X mX10_workBoard 40 [(0, vR 265), (1, vI x1), (2, vI x2), (3, vI (w32 (x3 + 1)))] [] sh (ν) (μ) 0 0 Q) ∧ ((w32 (x4 + x2)) ≤ ((μ) 265 35) → X mX10_work 0 [(0, vR 265), (1, vI x4), (2, vI x3), (3, vI x2), (4, vI x1)] [] sh (ν) (μ) 0 0 (fun v sh' ν' μ' => X mX10_workBoard 73 [(0, vR 265), (1, vI x1), (2, vI x2), (3, vI x3), (4, vI x4)] (v.toList ++ []) sh' ν' μ' 0 0 Q)))) :
    X mX10_workBoard 53 [(0, vR 265), (1, vI x1), (2, vI x2), (3, vI x3), (4, vI x4)] [] sh ν μ 0 0 Q := by
  refine X.iload (pc := 53) (i := 4) 4 dX10_workBoard_53 rfl ?_
  refine X.iload_n (pc := 55) (i := 2) 2 dX10_workBoard_55 rfl rfl ?_
  refine X.iadd (pc := 56) dX10_workBoard_56 ?_
  refine X.aload_n (pc := 57) (i := 0) 0 dX10_workBoard_57 rfl rfl ?_
  refine X.getI (pc := 58) dX10_workBoard_58 fl_X10_218 rfl (fs_X10 hW) ?_
  refine X.icmp_gt (pc := 61) 79 dX10_workBoard_61 (by decide) ⟨fun q9 => ?_, fun q9 => ?_⟩
  · have h := h.1 q9
    refine X.iinc (pc := 79) (i := 3) (ls' := [(3, vI (w32 (x3 + 1))), (0, vR 265), (1, vI x1), (2, vI x2), (4, vI x4)]) 3 dX10_workBoard_79 rfl (by decide) rfl ?_
    refine X.goto (pc := 82) (tgt := 40) dX10_workBoard_82 (by decide) ?_
    exact X.pick [1, 2, 3, 0] rfl h
  · have h := h.2 q9
    refine X.aload_n (pc := 64) (i := 0) 0 dX10_workBoard_64 rfl rfl ?_
    refine X.iload (pc := 65) (i := 4) 4 dX10_workBoard_65 rfl ?_
    refine X.iload_n (pc := 67) (i := 3) 3 dX10_workBoard_67 rfl rfl ?_
    refine X.iload_n (pc := 68) (i := 2) 2 dX10_workBoard_68 rfl rfl ?_
    refine X.iload_n (pc := 69) (i := 1) 1 dX10_workBoard_69 rfl rfl ?_
    exact X.callV (pc := 70) (vs := [vI x4, vI x3, vI x2, vI x1]) (st := []) dX10_workBoard_70 rfl okM_X10_work rfl lk_X10_279 inst_X10_work sel_X10_work (fs_X10 hW) rfl ⟨⟨by decide, by decide⟩, ⟨by decide, by decide⟩, Nat.le_of_ble_eq_true rfl⟩ (Nat.le_of_ble_eq_true rfl) h

theorem g_X10_workBoard_73 {sh : List (Nat × Nat)} {ν : Nat → Nat → Option Nat} {μ : Nat → Nat → Int} {f s : Nat} {Q : xQ} (hW : WF sh ν f s) {x1 : Int} {x2 : Int} {x3 : Int} {x4 : Int}
    (h : X mX10_workBoard 53 [(0, vR 265), (1, vI x1), (2, vI x2), (3, vI x3), (4, vI (w32 (x4 + 1)))] [] sh (ν) (μ) 0 0 Q) :
    X mX10_workBoard 73 [(0, vR 265), (1, vI x1), (2, vI x2), (3, vI x3), (4, vI x4)] [] sh ν μ 0 0 Q := by
  refine X.iinc (pc := 73) (i := 4) (ls' := [(4, vI (w32 (x4 + 1))), (0, vR 265), (1, vI x1), (2, vI x2), (3, vI x3)]) 4 dX10_workBoard_73 rfl (by decide) rfl ?_
  refine X.goto (pc := 76) (tgt := 53) dX10_workBoard_76 (by decide) ?_
  exact X.pick [1, 2, 3, 4, 0] rfl h

theorem g_X10_ways_0 {sh : List (Nat × Nat)} {ν : Nat → Nat → Option Nat} {μ : Nat → Nat → Int} {f s : Nat} {Q : xQ} (hW : WF sh ν f s) {x1 : Int} {x2 : Int} {x3 : Int}
    (h : (((0 ≤ x1 ∧ x1 ≤ 7) → ((¬ (1 ≤ x2 ∧ x2 ≤ 20) → Q (some (vL (-2))) sh (ν) (μ)) ∧ ((1 ≤ x2 ∧ x2 ≤ 20) → (((1 ≤ x3 ∧ x3 ≤ 20) → X mX10_workScopes 0 [(0, vR 265)] [] sh (ν) (μ) 0 0 (fun v sh' ν' μ' => X mX10_ways 33 [(0, vR 265), (1, vI x1), (2, vI x2), (3, vI x3)] (v.toList ++ []) sh' ν' μ' 0 0 Q)) ∧ (¬ (1 ≤ x3 ∧ x3 ≤ 20) → Q (some (vL (-2))) sh (ν) (μ)))))) ∧ (¬ (0 ≤ x1 ∧ x1 ≤ 7) → Q (some (vL (-1))) sh (ν) (μ)))) :
    X mX10_ways 0 [(0, vR 265), (1, vI x1), (2, vI x2), (3, vI x3)] [] sh ν μ 0 0 Q := by
  refine X.iload_n (pc := 0) (i := 1) 1 dX10_ways_0 rfl rfl ?_
  refine X.callS (pc := 1) (vs := [vI x1]) (st := []) dX10_ways_1 rfl okM_X10_isName rfl lk_X10_135 stat_X10_isName ⟨⟨by decide, by decide⟩, ⟨by decide, by decide⟩, Nat.le_of_ble_eq_true rfl⟩ (Nat.le_of_ble_eq_true rfl) (c_X10_isName hW ?_)
  refine X.nrm (pc' := 4) (ls' := [(0, vR 265), (1, vI x1), (2, vI x2), (3, vI x3)]) (st' := [vI (bI (0 ≤ x1 ∧ x1 ≤ 7))]) (k' := 0) (n' := 0) rfl rfl rfl rfl rfl ?_
  refine X.if_ne (pc := 4) 11 dX10_ways_4 (by decide) ⟨fun q9 => ?_, fun q9 => ?_⟩
  · have h := h.1 (bI_ne.mp q9)
    refine X.iload_n (pc := 11) (i := 2) 2 dX10_ways_11 rfl rfl ?_
    refine X.callS (pc := 12) (vs := [vI x2]) (st := []) dX10_ways_12 rfl okM_X10_isLength rfl lk_X10_161 stat_X10_isLength ⟨⟨by decide, by decide⟩, ⟨by decide, by decide⟩, Nat.le_of_ble_eq_true rfl⟩ (Nat.le_of_ble_eq_true rfl) (c_X10_isLength hW ?_)
    refine X.nrm (pc' := 15) (ls' := [(0, vR 265), (1, vI x1), (2, vI x2), (3, vI x3)]) (st' := [vI (bI (1 ≤ x2 ∧ x2 ≤ 20))]) (k' := 0) (n' := 0) rfl rfl rfl rfl rfl ?_
    refine X.if_eq (pc := 15) 25 dX10_ways_15 (by decide) ⟨fun q9 => ?_, fun q9 => ?_⟩
    · have h := h.1 (bI_eq.mp q9)
      refine X.ldc2 (pc := 25) (y := -2) dX10_ways_25 kc_X10_285 rfl ⟨by decide, by decide⟩ ?_
      exact X.lret (pc := 28) dX10_ways_28 rfl (Nat.le_of_ble_eq_true rfl) (Nat.le_of_ble_eq_true rfl) h
    · have h := h.2 (bI_ne.mp q9)
      refine X.iload_n (pc := 18) (i := 3) 3 dX10_ways_18 rfl rfl ?_
      refine X.callS (pc := 19) (vs := [vI x3]) (st := []) dX10_ways_19 rfl okM_X10_isLength rfl lk_X10_161 stat_X10_isLength ⟨⟨by decide, by decide⟩, ⟨by decide, by decide⟩, Nat.le_of_ble_eq_true rfl⟩ (Nat.le_of_ble_eq_true rfl) (c_X10_isLength hW ?_)
      refine X.nrm (pc' := 22) (ls' := [(0, vR 265), (1, vI x1), (2, vI x2), (3, vI x3)]) (st' := [vI (bI (1 ≤ x3 ∧ x3 ≤ 20))]) (k' := 0) (n' := 0) rfl rfl rfl rfl rfl ?_
      refine X.if_ne (pc := 22) 29 dX10_ways_22 (by decide) ⟨fun q9 => ?_, fun q9 => ?_⟩
      · have h := h.1 (bI_ne.mp q9)
        refine X.aload_n (pc := 29) (i := 0) 0 dX10_ways_29 rfl rfl ?_
        exact X.callV (pc := 30) (vs := []) (st := []) dX10_ways_30 rfl okM_X10_workScopes rfl lk_X10_287 inst_X10_workScopes sel_X10_workScopes (fs_X10 hW) rfl ⟨⟨by decide, by decide⟩, ⟨by decide, by decide⟩, Nat.le_of_ble_eq_true rfl⟩ (Nat.le_of_ble_eq_true rfl) h
      · have h := h.2 (bI_eq.mp q9)
        refine X.ldc2 (pc := 25) (y := -2) dX10_ways_25 kc_X10_285 rfl ⟨by decide, by decide⟩ ?_
        exact X.lret (pc := 28) dX10_ways_28 rfl (Nat.le_of_ble_eq_true rfl) (Nat.le_of_ble_eq_true rfl) h
  · have h := h.2 (bI_eq.mp q9)
    refine X.ldc2 (pc := 7) (y := -1) dX10_ways_7 kc_X10_283 rfl ⟨by decide, by decide⟩ ?_
    exact X.lret (pc := 10) dX10_ways_10 rfl (Nat.le_of_ble_eq_true rfl) (Nat.le_of_ble_eq_true rfl) h

theorem g_X10_ways_33 {sh : List (Nat × Nat)} {ν : Nat → Nat → Option Nat} {μ : Nat → Nat → Int} {f s : Nat} {Q : xQ} (hW : WF sh ν f s) {x1 : Int} {x2 : Int} {x3 : Int}
    (h : ((0 : Int) ≤ 0 ∧ (0 : Int) ≤ 20) ∧ ((0 : Int) ≤ 0 ∧ (0 : Int) ≤ 20) ∧ ((1 : Int) ≤ x2 ∧ (x2 : Int) ≤ 20) ∧ ((1 : Int) ≤ x3 ∧ (x3 : Int) ≤ 20) ∧ (0 ≤ (w32 ((plF ((μ) 265 42) 0 0 x2 x3) + x1)) ∧ (w32 ((plF ((μ) 265 42) 0 0 x2 x3) + x1)) < (55688 : Nat)) ∧ Q (some (vL ((μ) 293 (Int.toNat (w32 ((plF ((μ) 265 42) 0 0 x2 x3) + x1)))))) sh (ν) (μ)) :
    X mX10_ways 33 [(0, vR 265), (1, vI x1), (2, vI x2), (3, vI x3)] [] sh ν μ 0 0 Q := by
  refine X.aload_n (pc := 33) (i := 0) 0 dX10_ways_33 rfl rfl ?_
  refine X.getR (pc := 34) (b := 293) dX10_ways_34 fl_X10_93 rfl (fs_X10 hW) (fp_X10_38 hW) ?_
  refine X.aload_n (pc := 37) (i := 0) 0 dX10_ways_37 rfl rfl ?_
  refine X.iconst (pc := 38) dX10_ways_38 ⟨by decide, by decide⟩ ?_
  refine X.iconst (pc := 39) dX10_ways_39 ⟨by decide, by decide⟩ ?_
  refine X.iload_n (pc := 40) (i := 2) 2 dX10_ways_40 rfl rfl ?_
  refine X.iload_n (pc := 41) (i := 3) 3 dX10_ways_41 rfl rfl ?_
  refine X.pick [1] rfl ?_
  obtain ⟨c1, h⟩ := h
  obtain ⟨c2, h⟩ := h
  obtain ⟨c3, h⟩ := h
  obtain ⟨c4, h⟩ := h
  refine X.callV (pc := 42) (vs := [vI 0, vI 0, vI x2, vI x3]) (st := [vR 293]) dX10_ways_42 rfl okM_X10_place rfl lk_X10_245 inst_X10_place sel_X10_place (fs_X10 hW) rfl ⟨⟨by decide, by decide⟩, ⟨by decide, by decide⟩, Nat.le_of_ble_eq_true rfl⟩ (Nat.le_of_ble_eq_true rfl) (c_X10_place hW c1 c2 c3 c4 ?_)
  refine X.nrm (pc' := 45) (ls' := [(1, vI x1)]) (st' := [vI (plF ((μ) 265 42) 0 0 x2 x3), vR 293]) (k' := 0) (n' := 0) rfl rfl rfl rfl rfl ?_
  refine X.iload_n (pc := 45) (i := 1) 0 dX10_ways_45 rfl rfl ?_
  refine X.iadd (pc := 46) dX10_ways_46 ?_
  obtain ⟨c5, h⟩ := h
  refine X.laload (pc := 47) dX10_ways_47 (fa_X10_38 hW) c5 ?_
  exact X.lret (pc := 48) dX10_ways_48 rfl (Nat.le_of_ble_eq_true rfl) (Nat.le_of_ble_eq_true rfl) h

theorem g_X10_least_0 {sh : List (Nat × Nat)} {ν : Nat → Nat → Option Nat} {μ : Nat → Nat → Int} {f s : Nat} {Q : xQ} (hW : WF sh ν f s) {x1 : Int} {x2 : Int} {x3 : Int}
    (h : (((0 ≤ x1 ∧ x1 ≤ 7) → ((¬ (1 ≤ x2 ∧ x2 ≤ 20) → Q (some (vI (-2))) sh (ν) (μ)) ∧ ((1 ≤ x2 ∧ x2 ≤ 20) → (((1 ≤ x3 ∧ x3 ≤ 20) → X mX10_workScopes 0 [(0, vR 265)] [] sh (ν) (μ) 0 0 (fun v sh' ν' μ' => X mX10_least 30 [(0, vR 265), (1, vI x1), (2, vI x2), (3, vI x3)] (v.toList ++ []) sh' ν' μ' 0 0 Q)) ∧ (¬ (1 ≤ x3 ∧ x3 ≤ 20) → Q (some (vI (-2))) sh (ν) (μ)))))) ∧ (¬ (0 ≤ x1 ∧ x1 ≤ 7) → Q (some (vI (-1))) sh (ν) (μ)))) :
    X mX10_least 0 [(0, vR 265), (1, vI x1), (2, vI x2), (3, vI x3)] [] sh ν μ 0 0 Q := by
  refine X.iload_n (pc := 0) (i := 1) 1 dX10_least_0 rfl rfl ?_
  refine X.callS (pc := 1) (vs := [vI x1]) (st := []) dX10_least_1 rfl okM_X10_isName rfl lk_X10_135 stat_X10_isName ⟨⟨by decide, by decide⟩, ⟨by decide, by decide⟩, Nat.le_of_ble_eq_true rfl⟩ (Nat.le_of_ble_eq_true rfl) (c_X10_isName hW ?_)
  refine X.nrm (pc' := 4) (ls' := [(0, vR 265), (1, vI x1), (2, vI x2), (3, vI x3)]) (st' := [vI (bI (0 ≤ x1 ∧ x1 ≤ 7))]) (k' := 0) (n' := 0) rfl rfl rfl rfl rfl ?_
  refine X.if_ne (pc := 4) 9 dX10_least_4 (by decide) ⟨fun q9 => ?_, fun q9 => ?_⟩
  · have h := h.1 (bI_ne.mp q9)
    refine X.iload_n (pc := 9) (i := 2) 2 dX10_least_9 rfl rfl ?_
    refine X.callS (pc := 10) (vs := [vI x2]) (st := []) dX10_least_10 rfl okM_X10_isLength rfl lk_X10_161 stat_X10_isLength ⟨⟨by decide, by decide⟩, ⟨by decide, by decide⟩, Nat.le_of_ble_eq_true rfl⟩ (Nat.le_of_ble_eq_true rfl) (c_X10_isLength hW ?_)
    refine X.nrm (pc' := 13) (ls' := [(0, vR 265), (1, vI x1), (2, vI x2), (3, vI x3)]) (st' := [vI (bI (1 ≤ x2 ∧ x2 ≤ 20))]) (k' := 0) (n' := 0) rfl rfl rfl rfl rfl ?_
    refine X.if_eq (pc := 13) 23 dX10_least_13 (by decide) ⟨fun q9 => ?_, fun q9 => ?_⟩
    · have h := h.1 (bI_eq.mp q9)
      refine X.bipush (pc := 23) (y := -2) dX10_least_23 rfl ⟨by decide, by decide⟩ ?_
      exact X.iret (pc := 25) dX10_least_25 rfl (Nat.le_of_ble_eq_true rfl) (Nat.le_of_ble_eq_true rfl) h
    · have h := h.2 (bI_ne.mp q9)
      refine X.iload_n (pc := 16) (i := 3) 3 dX10_least_16 rfl rfl ?_
      refine X.callS (pc := 17) (vs := [vI x3]) (st := []) dX10_least_17 rfl okM_X10_isLength rfl lk_X10_161 stat_X10_isLength ⟨⟨by decide, by decide⟩, ⟨by decide, by decide⟩, Nat.le_of_ble_eq_true rfl⟩ (Nat.le_of_ble_eq_true rfl) (c_X10_isLength hW ?_)
      refine X.nrm (pc' := 20) (ls' := [(0, vR 265), (1, vI x1), (2, vI x2), (3, vI x3)]) (st' := [vI (bI (1 ≤ x3 ∧ x3 ≤ 20))]) (k' := 0) (n' := 0) rfl rfl rfl rfl rfl ?_
      refine X.if_ne (pc := 20) 26 dX10_least_20 (by decide) ⟨fun q9 => ?_, fun q9 => ?_⟩
      · have h := h.1 (bI_ne.mp q9)
        refine X.aload_n (pc := 26) (i := 0) 0 dX10_least_26 rfl rfl ?_
        exact X.callV (pc := 27) (vs := []) (st := []) dX10_least_27 rfl okM_X10_workScopes rfl lk_X10_287 inst_X10_workScopes sel_X10_workScopes (fs_X10 hW) rfl ⟨⟨by decide, by decide⟩, ⟨by decide, by decide⟩, Nat.le_of_ble_eq_true rfl⟩ (Nat.le_of_ble_eq_true rfl) h
      · have h := h.2 (bI_eq.mp q9)
        refine X.bipush (pc := 23) (y := -2) dX10_least_23 rfl ⟨by decide, by decide⟩ ?_
        exact X.iret (pc := 25) dX10_least_25 rfl (Nat.le_of_ble_eq_true rfl) (Nat.le_of_ble_eq_true rfl) h
  · have h := h.2 (bI_eq.mp q9)
    refine X.iconst (pc := 7) dX10_least_7 ⟨by decide, by decide⟩ ?_
    exact X.iret (pc := 8) dX10_least_8 rfl (Nat.le_of_ble_eq_true rfl) (Nat.le_of_ble_eq_true rfl) h

theorem g_X10_least_30 {sh : List (Nat × Nat)} {ν : Nat → Nat → Option Nat} {μ : Nat → Nat → Int} {f s : Nat} {Q : xQ} (hW : WF sh ν f s) {x1 : Int} {x2 : Int} {x3 : Int}
    (h : ((0 : Int) ≤ 0 ∧ (0 : Int) ≤ 20) ∧ ((0 : Int) ≤ 0 ∧ (0 : Int) ≤ 20) ∧ ((1 : Int) ≤ x2 ∧ (x2 : Int) ≤ 20) ∧ ((1 : Int) ≤ x3 ∧ (x3 : Int) ≤ 20) ∧ (0 ≤ (w32 ((plF ((μ) 265 42) 0 0 x2 x3) + x1)) ∧ (w32 ((plF ((μ) 265 42) 0 0 x2 x3) + x1)) < (55688 : Nat)) ∧ ((((μ) 296 (Int.toNat (w32 ((plF ((μ) 265 42) 0 0 x2 x3) + x1)))) ≠ (-9) → (0 ≤ (w32 ((plF ((μ) 265 42) 0 0 x2 x3) + x1)) ∧ (w32 ((plF ((μ) 265 42) 0 0 x2 x3) + x1)) < (55688 : Nat)) ∧ Q (some (vI ((μ) 294 (Int.toNat (w32 ((plF ((μ) 265 42) 0 0 x2 x3) + x1)))))) sh (ν) (μ)) ∧ (((μ) 296 (Int.toNat (w32 ((plF ((μ) 265 42) 0 0 x2 x3) + x1)))) = (-9) → Q (some (vI (-9))) sh (ν) (μ)))) :
    X mX10_least 30 [(0, vR 265), (1, vI x1), (2, vI x2), (3, vI x3)] [] sh ν μ 0 0 Q := by
  refine X.aload_n (pc := 30) (i := 0) 0 dX10_least_30 rfl rfl ?_
  refine X.iconst (pc := 31) dX10_least_31 ⟨by decide, by decide⟩ ?_
  refine X.iconst (pc := 32) dX10_least_32 ⟨by decide, by decide⟩ ?_
  refine X.iload_n (pc := 33) (i := 2) 2 dX10_least_33 rfl rfl ?_
  refine X.iload_n (pc := 34) (i := 3) 3 dX10_least_34 rfl rfl ?_
  refine X.pick [0, 1] rfl ?_
  obtain ⟨c1, h⟩ := h
  obtain ⟨c2, h⟩ := h
  obtain ⟨c3, h⟩ := h
  obtain ⟨c4, h⟩ := h
  refine X.callV (pc := 35) (vs := [vI 0, vI 0, vI x2, vI x3]) (st := []) dX10_least_35 rfl okM_X10_place rfl lk_X10_245 inst_X10_place sel_X10_place (fs_X10 hW) rfl ⟨⟨by decide, by decide⟩, ⟨by decide, by decide⟩, Nat.le_of_ble_eq_true rfl⟩ (Nat.le_of_ble_eq_true rfl) (c_X10_place hW c1 c2 c3 c4 ?_)
  refine X.nrm (pc' := 38) (ls' := [(0, vR 265), (1, vI x1)]) (st' := [vI (plF ((μ) 265 42) 0 0 x2 x3)]) (k' := 0) (n' := 0) rfl rfl rfl rfl rfl ?_
  refine X.iload_n (pc := 38) (i := 1) 1 dX10_least_38 rfl rfl ?_
  refine X.iadd (pc := 39) dX10_least_39 ?_
  refine X.istore (pc := 40) (i := 4) (ls' := [(4, vI (w32 ((plF ((μ) 265 42) 0 0 x2 x3) + x1))), (0, vR 265), (1, vI x1)]) dX10_least_40 (by decide) rfl ?_
  refine X.aload_n (pc := 42) (i := 0) 1 dX10_least_42 rfl rfl ?_
  refine X.getR (pc := 43) (b := 296) dX10_least_43 fl_X10_103 rfl (fs_X10 hW) (fp_X10_41 hW) ?_
  refine X.iload (pc := 46) (i := 4) 0 dX10_least_46 rfl ?_
  obtain ⟨c5, h⟩ := h
  refine X.iaload (pc := 48) dX10_least_48 (fa_X10_41 hW) c5 ?_
  refine X.bipush (pc := 49) (y := -9) dX10_least_49 rfl ⟨by decide, by decide⟩ ?_
  refine X.icmp_ne (pc := 51) 59 dX10_least_51 (by decide) ⟨fun q9 => ?_, fun q9 => ?_⟩
  · have h := h.1 q9
    refine X.aload_n (pc := 59) (i := 0) 1 dX10_least_59 rfl rfl ?_
    refine X.getR (pc := 60) (b := 294) dX10_least_60 fl_X10_97 rfl (fs_X10 hW) (fp_X10_39 hW) ?_
    refine X.iload (pc := 63) (i := 4) 0 dX10_least_63 rfl ?_
    obtain ⟨c6, h⟩ := h
    refine X.iaload (pc := 65) dX10_least_65 (fa_X10_39 hW) c6 ?_
    exact X.iret (pc := 66) dX10_least_66 rfl (Nat.le_of_ble_eq_true rfl) (Nat.le_of_ble_eq_true rfl) h
  · have h := h.2 q9
    refine X.bipush (pc := 54) (y := -9) dX10_least_54 rfl ⟨by decide, by decide⟩ ?_
    refine X.goto (pc := 56) (tgt := 66) dX10_least_56 (by decide) ?_
    exact X.iret (pc := 66) dX10_least_66 rfl (Nat.le_of_ble_eq_true rfl) (Nat.le_of_ble_eq_true rfl) h

theorem g_X10_parses_0 {sh : List (Nat × Nat)} {ν : Nat → Nat → Option Nat} {μ : Nat → Nat → Int} {f s : Nat} {Q : xQ} (hW : WF sh ν f s) 
    (h : X mX10_workBoard 0 [(0, vR 265)] [] sh (ν) (μ) 0 0 (fun v sh' ν' μ' => X mX10_parses 4 [(0, vR 265)] (v.toList ++ []) sh' ν' μ' 0 0 Q)) :
    X mX10_parses 0 [(0, vR 265)] [] sh ν μ 0 0 Q := by
  refine X.aload_n (pc := 0) (i := 0) 0 dX10_parses_0 rfl rfl ?_
  exact X.callV (pc := 1) (vs := []) (st := []) dX10_parses_1 rfl okM_X10_workBoard rfl lk_X10_290 inst_X10_workBoard sel_X10_workBoard (fs_X10 hW) rfl ⟨⟨by decide, by decide⟩, ⟨by decide, by decide⟩, Nat.le_of_ble_eq_true rfl⟩ (Nat.le_of_ble_eq_true rfl) h

theorem g_X10_parses_4 {sh : List (Nat × Nat)} {ν : Nat → Nat → Option Nat} {μ : Nat → Nat → Int} {f s : Nat} {Q : xQ} (hW : WF sh ν f s) 
    (h : ((0 : Int) ≤ 0 ∧ (0 : Int) ≤ 20) ∧ ((0 : Int) ≤ 0 ∧ (0 : Int) ≤ 20) ∧ ((1 : Int) ≤ ((μ) 265 35) ∧ (((μ) 265 35) : Int) ≤ 20) ∧ ((1 : Int) ≤ ((μ) 265 36) ∧ (((μ) 265 36) : Int) ≤ 20) ∧ (0 ≤ (plF ((μ) 265 42) 0 0 ((μ) 265 35) ((μ) 265 36)) ∧ (plF ((μ) 265 42) 0 0 ((μ) 265 35) ((μ) 265 36)) < (55688 : Nat)) ∧ Q (some (vL ((μ) 293 (Int.toNat (plF ((μ) 265 42) 0 0 ((μ) 265 35) ((μ) 265 36)))))) sh (ν) (μ)) :
    X mX10_parses 4 [(0, vR 265)] [] sh ν μ 0 0 Q := by
  refine X.aload_n (pc := 4) (i := 0) 0 dX10_parses_4 rfl rfl ?_
  refine X.getR (pc := 5) (b := 293) dX10_parses_5 fl_X10_93 rfl (fs_X10 hW) (fp_X10_38 hW) ?_
  refine X.aload_n (pc := 8) (i := 0) 0 dX10_parses_8 rfl rfl ?_
  refine X.iconst (pc := 9) dX10_parses_9 ⟨by decide, by decide⟩ ?_
  refine X.iconst (pc := 10) dX10_parses_10 ⟨by decide, by decide⟩ ?_
  refine X.aload_n (pc := 11) (i := 0) 0 dX10_parses_11 rfl rfl ?_
  refine X.getI (pc := 12) dX10_parses_12 fl_X10_218 rfl (fs_X10 hW) ?_
  refine X.aload_n (pc := 15) (i := 0) 0 dX10_parses_15 rfl rfl ?_
  refine X.getI (pc := 16) dX10_parses_16 fl_X10_221 rfl (fs_X10 hW) ?_
  refine X.pick [] rfl ?_
  obtain ⟨c1, h⟩ := h
  obtain ⟨c2, h⟩ := h
  obtain ⟨c3, h⟩ := h
  obtain ⟨c4, h⟩ := h
  refine X.callV (pc := 19) (vs := [vI 0, vI 0, vI ((μ) 265 35), vI ((μ) 265 36)]) (st := [vR 293]) dX10_parses_19 rfl okM_X10_place rfl lk_X10_245 inst_X10_place sel_X10_place (fs_X10 hW) rfl ⟨⟨by decide, by decide⟩, ⟨by decide, by decide⟩, Nat.le_of_ble_eq_true rfl⟩ (Nat.le_of_ble_eq_true rfl) (c_X10_place hW c1 c2 c3 c4 ?_)
  refine X.nrm (pc' := 22) (ls' := []) (st' := [vI (plF ((μ) 265 42) 0 0 ((μ) 265 35) ((μ) 265 36)), vR 293]) (k' := 0) (n' := 0) rfl rfl rfl rfl rfl ?_
  obtain ⟨c5, h⟩ := h
  refine X.laload (pc := 22) dX10_parses_22 (fa_X10_38 hW) c5 ?_
  exact X.lret (pc := 23) dX10_parses_23 rfl (Nat.le_of_ble_eq_true rfl) (Nat.le_of_ble_eq_true rfl) h

theorem g_X10_best_0 {sh : List (Nat × Nat)} {ν : Nat → Nat → Option Nat} {μ : Nat → Nat → Int} {f s : Nat} {Q : xQ} (hW : WF sh ν f s) 
    (h : X mX10_workBoard 0 [(0, vR 265)] [] sh (ν) (μ) 0 0 (fun v sh' ν' μ' => X mX10_best 4 [(0, vR 265)] (v.toList ++ []) sh' ν' μ' 0 0 Q)) :
    X mX10_best 0 [(0, vR 265)] [] sh ν μ 0 0 Q := by
  refine X.aload_n (pc := 0) (i := 0) 0 dX10_best_0 rfl rfl ?_
  exact X.callV (pc := 1) (vs := []) (st := []) dX10_best_1 rfl okM_X10_workBoard rfl lk_X10_290 inst_X10_workBoard sel_X10_workBoard (fs_X10 hW) rfl ⟨⟨by decide, by decide⟩, ⟨by decide, by decide⟩, Nat.le_of_ble_eq_true rfl⟩ (Nat.le_of_ble_eq_true rfl) h

theorem g_X10_best_4 {sh : List (Nat × Nat)} {ν : Nat → Nat → Option Nat} {μ : Nat → Nat → Int} {f s : Nat} {Q : xQ} (hW : WF sh ν f s) 
    (h : ((0 : Int) ≤ 0 ∧ (0 : Int) ≤ 20) ∧ ((0 : Int) ≤ 0 ∧ (0 : Int) ≤ 20) ∧ ((1 : Int) ≤ ((μ) 265 35) ∧ (((μ) 265 35) : Int) ≤ 20) ∧ ((1 : Int) ≤ ((μ) 265 36) ∧ (((μ) 265 36) : Int) ≤ 20) ∧ (0 ≤ (plF ((μ) 265 42) 0 0 ((μ) 265 35) ((μ) 265 36)) ∧ (plF ((μ) 265 42) 0 0 ((μ) 265 35) ((μ) 265 36)) < (55688 : Nat)) ∧ ((((μ) 296 (Int.toNat (plF ((μ) 265 42) 0 0 ((μ) 265 35) ((μ) 265 36)))) ≠ (-9) → (0 ≤ (plF ((μ) 265 42) 0 0 ((μ) 265 35) ((μ) 265 36)) ∧ (plF ((μ) 265 42) 0 0 ((μ) 265 35) ((μ) 265 36)) < (55688 : Nat)) ∧ Q (some (vI ((μ) 294 (Int.toNat (plF ((μ) 265 42) 0 0 ((μ) 265 35) ((μ) 265 36)))))) sh (ν) (μ)) ∧ (((μ) 296 (Int.toNat (plF ((μ) 265 42) 0 0 ((μ) 265 35) ((μ) 265 36)))) = (-9) → Q (some (vI (-9))) sh (ν) (μ)))) :
    X mX10_best 4 [(0, vR 265)] [] sh ν μ 0 0 Q := by
  refine X.aload_n (pc := 4) (i := 0) 0 dX10_best_4 rfl rfl ?_
  refine X.iconst (pc := 5) dX10_best_5 ⟨by decide, by decide⟩ ?_
  refine X.iconst (pc := 6) dX10_best_6 ⟨by decide, by decide⟩ ?_
  refine X.aload_n (pc := 7) (i := 0) 0 dX10_best_7 rfl rfl ?_
  refine X.getI (pc := 8) dX10_best_8 fl_X10_218 rfl (fs_X10 hW) ?_
  refine X.aload_n (pc := 11) (i := 0) 0 dX10_best_11 rfl rfl ?_
  refine X.getI (pc := 12) dX10_best_12 fl_X10_221 rfl (fs_X10 hW) ?_
  obtain ⟨c1, h⟩ := h
  obtain ⟨c2, h⟩ := h
  obtain ⟨c3, h⟩ := h
  obtain ⟨c4, h⟩ := h
  refine X.callV (pc := 15) (vs := [vI 0, vI 0, vI ((μ) 265 35), vI ((μ) 265 36)]) (st := []) dX10_best_15 rfl okM_X10_place rfl lk_X10_245 inst_X10_place sel_X10_place (fs_X10 hW) rfl ⟨⟨by decide, by decide⟩, ⟨by decide, by decide⟩, Nat.le_of_ble_eq_true rfl⟩ (Nat.le_of_ble_eq_true rfl) (c_X10_place hW c1 c2 c3 c4 ?_)
  refine X.nrm (pc' := 18) (ls' := [(0, vR 265)]) (st' := [vI (plF ((μ) 265 42) 0 0 ((μ) 265 35) ((μ) 265 36))]) (k' := 0) (n' := 0) rfl rfl rfl rfl rfl ?_
  refine X.istore_n (pc := 18) (i := 1) (ls' := [(1, vI (plF ((μ) 265 42) 0 0 ((μ) 265 35) ((μ) 265 36))), (0, vR 265)]) dX10_best_18 rfl (by decide) rfl ?_
  refine X.aload_n (pc := 19) (i := 0) 1 dX10_best_19 rfl rfl ?_
  refine X.getR (pc := 20) (b := 296) dX10_best_20 fl_X10_103 rfl (fs_X10 hW) (fp_X10_41 hW) ?_
  refine X.iload_n (pc := 23) (i := 1) 0 dX10_best_23 rfl rfl ?_
  obtain ⟨c5, h⟩ := h
  refine X.iaload (pc := 24) dX10_best_24 (fa_X10_41 hW) c5 ?_
  refine X.bipush (pc := 25) (y := -9) dX10_best_25 rfl ⟨by decide, by decide⟩ ?_
  refine X.icmp_ne (pc := 27) 35 dX10_best_27 (by decide) ⟨fun q9 => ?_, fun q9 => ?_⟩
  · have h := h.1 q9
    refine X.aload_n (pc := 35) (i := 0) 1 dX10_best_35 rfl rfl ?_
    refine X.getR (pc := 36) (b := 294) dX10_best_36 fl_X10_97 rfl (fs_X10 hW) (fp_X10_39 hW) ?_
    refine X.iload_n (pc := 39) (i := 1) 0 dX10_best_39 rfl rfl ?_
    obtain ⟨c6, h⟩ := h
    refine X.iaload (pc := 40) dX10_best_40 (fa_X10_39 hW) c6 ?_
    exact X.iret (pc := 41) dX10_best_41 rfl (Nat.le_of_ble_eq_true rfl) (Nat.le_of_ble_eq_true rfl) h
  · have h := h.2 q9
    refine X.bipush (pc := 30) (y := -9) dX10_best_30 rfl ⟨by decide, by decide⟩ ?_
    refine X.goto (pc := 32) (tgt := 41) dX10_best_32 (by decide) ?_
    exact X.iret (pc := 41) dX10_best_41 rfl (Nat.le_of_ble_eq_true rfl) (Nat.le_of_ble_eq_true rfl) h

theorem g_X10_bestStep_0 {sh : List (Nat × Nat)} {ν : Nat → Nat → Option Nat} {μ : Nat → Nat → Int} {f s : Nat} {Q : xQ} (hW : WF sh ν f s) {x1 : Int}
    (h : X mX10_workBoard 0 [(0, vR 265)] [] sh (ν) (μ) 0 0 (fun v sh' ν' μ' => X mX10_bestStep 4 [(0, vR 265), (1, vI x1)] (v.toList ++ []) sh' ν' μ' 0 0 Q)) :
    X mX10_bestStep 0 [(0, vR 265), (1, vI x1)] [] sh ν μ 0 0 Q := by
  refine X.aload_n (pc := 0) (i := 0) 0 dX10_bestStep_0 rfl rfl ?_
  exact X.callV (pc := 1) (vs := []) (st := []) dX10_bestStep_1 rfl okM_X10_workBoard rfl lk_X10_290 inst_X10_workBoard sel_X10_workBoard (fs_X10 hW) rfl ⟨⟨by decide, by decide⟩, ⟨by decide, by decide⟩, Nat.le_of_ble_eq_true rfl⟩ (Nat.le_of_ble_eq_true rfl) h

theorem g_X10_bestStep_4 {sh : List (Nat × Nat)} {ν : Nat → Nat → Option Nat} {μ : Nat → Nat → Int} {f s : Nat} {Q : xQ} (hW : WF sh ν f s) {x1 : Int}
    (h : ((0 : Int) ≤ 0 ∧ (0 : Int) ≤ 20) ∧ ((0 : Int) ≤ 0 ∧ (0 : Int) ≤ 20) ∧ ((1 : Int) ≤ ((μ) 265 35) ∧ (((μ) 265 35) : Int) ≤ 20) ∧ ((1 : Int) ≤ ((μ) 265 36) ∧ (((μ) 265 36) : Int) ≤ 20) ∧ (0 ≤ (plF ((μ) 265 42) 0 0 ((μ) 265 35) ((μ) 265 36)) ∧ (plF ((μ) 265 42) 0 0 ((μ) 265 35) ((μ) 265 36)) < (55688 : Nat)) ∧ ((((μ) 296 (Int.toNat (plF ((μ) 265 42) 0 0 ((μ) 265 35) ((μ) 265 36)))) = (-9) → Q (some (vI (-9))) sh (ν) (μ)) ∧ (((μ) 296 (Int.toNat (plF ((μ) 265 42) 0 0 ((μ) 265 35) ((μ) 265 36)))) ≠ (-9) → (0 ≤ (plF ((μ) 265 42) 0 0 ((μ) 265 35) ((μ) 265 36)) ∧ (plF ((μ) 265 42) 0 0 ((μ) 265 35) ((μ) 265 36)) < (55688 : Nat)) ∧ (((0 ≤ x1 ∧ x1 ≤ (w32 (((μ) 295 (Int.toNat (plF ((μ) 265 42) 0 0 ((μ) 265 35) ((μ) 265 36)))) - 1))) → X mX10_put 0 [(0, vR 265), (1, vI 0), (2, vI 0), (3, vI 0), (4, vI 0), (5, vI 0)] [] sh (ν) (up μ 265 27 0) 0 0 (fun v sh' ν' μ' => X mX10_bestStep 65 [(0, vR 265), (1, vI x1)] (v.toList ++ []) sh' ν' μ' 0 0 Q)) ∧ (¬ (0 ≤ x1 ∧ x1 ≤ (w32 (((μ) 295 (Int.toNat (plF ((μ) 265 42) 0 0 ((μ) 265 35) ((μ) 265 36)))) - 1))) → Q (some (vI (-9))) sh (ν) (μ)))))) :
    X mX10_bestStep 4 [(0, vR 265), (1, vI x1)] [] sh ν μ 0 0 Q := by
  refine X.aload_n (pc := 4) (i := 0) 0 dX10_bestStep_4 rfl rfl ?_
  refine X.iconst (pc := 5) dX10_bestStep_5 ⟨by decide, by decide⟩ ?_
  refine X.iconst (pc := 6) dX10_bestStep_6 ⟨by decide, by decide⟩ ?_
  refine X.aload_n (pc := 7) (i := 0) 0 dX10_bestStep_7 rfl rfl ?_
  refine X.getI (pc := 8) dX10_bestStep_8 fl_X10_218 rfl (fs_X10 hW) ?_
  refine X.aload_n (pc := 11) (i := 0) 0 dX10_bestStep_11 rfl rfl ?_
  refine X.getI (pc := 12) dX10_bestStep_12 fl_X10_221 rfl (fs_X10 hW) ?_
  obtain ⟨c1, h⟩ := h
  obtain ⟨c2, h⟩ := h
  obtain ⟨c3, h⟩ := h
  obtain ⟨c4, h⟩ := h
  refine X.callV (pc := 15) (vs := [vI 0, vI 0, vI ((μ) 265 35), vI ((μ) 265 36)]) (st := []) dX10_bestStep_15 rfl okM_X10_place rfl lk_X10_245 inst_X10_place sel_X10_place (fs_X10 hW) rfl ⟨⟨by decide, by decide⟩, ⟨by decide, by decide⟩, Nat.le_of_ble_eq_true rfl⟩ (Nat.le_of_ble_eq_true rfl) (c_X10_place hW c1 c2 c3 c4 ?_)
  refine X.nrm (pc' := 18) (ls' := [(0, vR 265), (1, vI x1)]) (st' := [vI (plF ((μ) 265 42) 0 0 ((μ) 265 35) ((μ) 265 36))]) (k' := 0) (n' := 0) rfl rfl rfl rfl rfl ?_
  refine X.istore_n (pc := 18) (i := 2) (ls' := [(2, vI (plF ((μ) 265 42) 0 0 ((μ) 265 35) ((μ) 265 36))), (0, vR 265), (1, vI x1)]) dX10_bestStep_18 rfl (by decide) rfl ?_
  refine X.aload_n (pc := 19) (i := 0) 1 dX10_bestStep_19 rfl rfl ?_
  refine X.getR (pc := 20) (b := 296) dX10_bestStep_20 fl_X10_103 rfl (fs_X10 hW) (fp_X10_41 hW) ?_
  refine X.iload_n (pc := 23) (i := 2) 0 dX10_bestStep_23 rfl rfl ?_
  obtain ⟨c5, h⟩ := h
  refine X.iaload (pc := 24) dX10_bestStep_24 (fa_X10_41 hW) c5 ?_
  refine X.bipush (pc := 25) (y := -9) dX10_bestStep_25 rfl ⟨by decide, by decide⟩ ?_
  refine X.icmp_eq (pc := 27) 48 dX10_bestStep_27 (by decide) ⟨fun q9 => ?_, fun q9 => ?_⟩
  · have h := h.1 q9
    refine X.bipush (pc := 48) (y := -9) dX10_bestStep_48 rfl ⟨by decide, by decide⟩ ?_
    exact X.iret (pc := 50) dX10_bestStep_50 rfl (Nat.le_of_ble_eq_true rfl) (Nat.le_of_ble_eq_true rfl) h
  · have h := h.2 q9
    refine X.iload_n (pc := 30) (i := 1) 2 dX10_bestStep_30 rfl rfl ?_
    refine X.i2l (pc := 31) dX10_bestStep_31 ?_
    refine X.lconst (pc := 32) (y := 0) dX10_bestStep_32 rfl ⟨by decide, by decide⟩ ?_
    refine X.aload_n (pc := 33) (i := 0) 1 dX10_bestStep_33 rfl rfl ?_
    refine X.getR (pc := 34) (b := 295) dX10_bestStep_34 fl_X10_100 rfl (fs_X10 hW) (fp_X10_40 hW) ?_
    refine X.iload_n (pc := 37) (i := 2) 0 dX10_bestStep_37 rfl rfl ?_
    obtain ⟨c6, h⟩ := h
    refine X.iaload (pc := 38) dX10_bestStep_38 (fa_X10_40 hW) c6 ?_
    refine X.iconst (pc := 39) dX10_bestStep_39 ⟨by decide, by decide⟩ ?_
    refine X.isub (pc := 40) dX10_bestStep_40 ?_
    refine X.i2l (pc := 41) dX10_bestStep_41 ?_
    refine X.pick [1, 2] rfl ?_
    refine X.callS (pc := 42) (vs := [vL x1, vL 0, vL (w32 (((μ) 295 (Int.toNat (plF ((μ) 265 42) 0 0 ((μ) 265 35) ((μ) 265 36)))) - 1))]) (st := []) dX10_bestStep_42 rfl okM_X10_in rfl lk_X10_124 stat_X10_in ⟨⟨by decide, by decide⟩, ⟨by decide, by decide⟩, Nat.le_of_ble_eq_true rfl⟩ (Nat.le_of_ble_eq_true rfl) (c_X10_in hW ?_)
    refine X.nrm (pc' := 45) (ls' := [(0, vR 265), (1, vI x1)]) (st' := [vI (bI (0 ≤ x1 ∧ x1 ≤ (w32 (((μ) 295 (Int.toNat (plF ((μ) 265 42) 0 0 ((μ) 265 35) ((μ) 265 36)))) - 1))))]) (k' := 0) (n' := 0) rfl rfl rfl rfl rfl ?_
    refine X.if_ne (pc := 45) 51 dX10_bestStep_45 (by decide) ⟨fun q9 => ?_, fun q9 => ?_⟩
    · have h := h.1 (bI_ne.mp q9)
      refine X.aload_n (pc := 51) (i := 0) 0 dX10_bestStep_51 rfl rfl ?_
      refine X.iconst (pc := 52) dX10_bestStep_52 ⟨by decide, by decide⟩ ?_
      refine X.putI (pc := 53) dX10_bestStep_53 fl_X10_190 rfl (fun h9 => by cases h9) (fs_X10 hW) (Or.inl rfl) ?_
      refine X.aload_n (pc := 56) (i := 0) 0 dX10_bestStep_56 rfl rfl ?_
      refine X.iconst (pc := 57) dX10_bestStep_57 ⟨by decide, by decide⟩ ?_
      refine X.iconst (pc := 58) dX10_bestStep_58 ⟨by decide, by decide⟩ ?_
      refine X.iconst (pc := 59) dX10_bestStep_59 ⟨by decide, by decide⟩ ?_
      refine X.iconst (pc := 60) dX10_bestStep_60 ⟨by decide, by decide⟩ ?_
      refine X.iconst (pc := 61) dX10_bestStep_61 ⟨by decide, by decide⟩ ?_
      exact X.callV (pc := 62) (vs := [vI 0, vI 0, vI 0, vI 0, vI 0]) (st := []) dX10_bestStep_62 rfl okM_X10_put rfl lk_X10_194 inst_X10_put sel_X10_put (fs_X10 hW) rfl ⟨⟨by decide, by decide⟩, ⟨by decide, by decide⟩, Nat.le_of_ble_eq_true rfl⟩ (Nat.le_of_ble_eq_true rfl) h
    · have h := h.2 (bI_eq.mp q9)
      refine X.bipush (pc := 48) (y := -9) dX10_bestStep_48 rfl ⟨by decide, by decide⟩ ?_
      exact X.iret (pc := 50) dX10_bestStep_50 rfl (Nat.le_of_ble_eq_true rfl) (Nat.le_of_ble_eq_true rfl) h

theorem g_X10_bestStep_65 {sh : List (Nat × Nat)} {ν : Nat → Nat → Option Nat} {μ : Nat → Nat → Int} {f s : Nat} {Q : xQ} (hW : WF sh ν f s) {x1 : Int}
    (h : X mX10_bestStep 96 [(0, vR 265), (1, vI x1), (3, vI (-9)), (4, vI 0)] [] sh (ν) (up (up (up μ 290 (Int.toNat 0) ((μ) 265 35)) 291 (Int.toNat 0) ((μ) 265 36)) 265 27 1) 0 0 Q) :
    X mX10_bestStep 65 [(0, vR 265), (1, vI x1)] [] sh ν μ 0 0 Q := by
  refine X.aload_n (pc := 65) (i := 0) 0 dX10_bestStep_65 rfl rfl ?_
  refine X.getR (pc := 66) (b := 290) dX10_bestStep_66 fl_X10_83 rfl (fs_X10 hW) (fp_X10_33 hW) ?_
  refine X.iconst (pc := 69) dX10_bestStep_69 ⟨by decide, by decide⟩ ?_
  refine X.aload_n (pc := 70) (i := 0) 0 dX10_bestStep_70 rfl rfl ?_
  refine X.getI (pc := 71) dX10_bestStep_71 fl_X10_218 rfl (fs_X10 hW) ?_
  refine X.iastore (pc := 74) dX10_bestStep_74 (fa_X10_33 hW) ⟨by decide, by decide⟩ ?_
  refine X.aload_n (pc := 75) (i := 0) 0 dX10_bestStep_75 rfl rfl ?_
  refine X.getR (pc := 76) (b := 291) dX10_bestStep_76 fl_X10_86 rfl (fs_X10 hW) (fp_X10_34 hW) ?_
  refine X.iconst (pc := 79) dX10_bestStep_79 ⟨by decide, by decide⟩ ?_
  refine X.aload_n (pc := 80) (i := 0) 0 dX10_bestStep_80 rfl rfl ?_
  refine X.getI (pc := 81) dX10_bestStep_81 fl_X10_221 rfl (fs_X10 hW) ?_
  refine X.topI (y := ((μ) 265 36)) ((up_a (by decide) _)) ?_
  refine X.iastore (pc := 84) dX10_bestStep_84 (fa_X10_34 hW) ⟨by decide, by decide⟩ ?_
  refine X.aload_n (pc := 85) (i := 0) 0 dX10_bestStep_85 rfl rfl ?_
  refine X.iconst (pc := 86) dX10_bestStep_86 ⟨by decide, by decide⟩ ?_
  refine X.putI (pc := 87) dX10_bestStep_87 fl_X10_190 rfl (fun h9 => by cases h9) (fs_X10 hW) (Or.inl rfl) ?_
  refine X.bipush (pc := 90) (y := -9) dX10_bestStep_90 rfl ⟨by decide, by decide⟩ ?_
  refine X.istore_n (pc := 92) (i := 3) (ls' := [(3, vI (-9)), (0, vR 265), (1, vI x1)]) dX10_bestStep_92 rfl (by decide) rfl ?_
  refine X.iconst (pc := 93) dX10_bestStep_93 ⟨by decide, by decide⟩ ?_
  refine X.istore (pc := 94) (i := 4) (ls' := [(4, vI 0), (3, vI (-9)), (0, vR 265), (1, vI x1)]) dX10_bestStep_94 (by decide) rfl ?_
  exact X.pick [2, 3, 1, 0] rfl h

theorem g_X10_bestStep_96 {sh : List (Nat × Nat)} {ν : Nat → Nat → Option Nat} {μ : Nat → Nat → Int} {f s : Nat} {Q : xQ} (hW : WF sh ν f s) {x1 : Int} {x3 : Int} {x4 : Int}
    (h : ((x1 < x4 → Q (some (vI x3)) sh (ν) (μ)) ∧ (x4 ≤ x1 → (0 ≤ (w32 (((μ) 265 27) - 1)) ∧ (w32 (((μ) 265 27) - 1)) < (600 : Nat)) ∧ (0 ≤ (w32 (((μ) 265 27) - 1)) ∧ (w32 (((μ) 265 27) - 1)) < (600 : Nat)) ∧ (0 ≤ (w32 (((μ) 265 27) - 1)) ∧ (w32 (((μ) 265 27) - 1)) < (600 : Nat)) ∧ (0 ≤ (w32 (((μ) 265 27) - 1)) ∧ (w32 (((μ) 265 27) - 1)) < (600 : Nat)) ∧ ((0 : Int) ≤ ((μ) 288 (Int.toNat (w32 (((μ) 265 27) - 1)))) ∧ (((μ) 288 (Int.toNat (w32 (((μ) 265 27) - 1)))) : Int) ≤ 20) ∧ ((0 : Int) ≤ ((μ) 289 (Int.toNat (w32 (((μ) 265 27) - 1)))) ∧ (((μ) 289 (Int.toNat (w32 (((μ) 265 27) - 1)))) : Int) ≤ 20) ∧ ((1 : Int) ≤ ((μ) 290 (Int.toNat (w32 (((μ) 265 27) - 1)))) ∧ (((μ) 290 (Int.toNat (w32 (((μ) 265 27) - 1)))) : Int) ≤ 20) ∧ ((1 : Int) ≤ ((μ) 291 (Int.toNat (w32 (((μ) 265 27) - 1)))) ∧ (((μ) 291 (Int.toNat (w32 (((μ) 265 27) - 1)))) : Int) ≤ 20) ∧ (0 ≤ (w32 (((μ) 265 27) - 1)) ∧ (w32 (((μ) 265 27) - 1)) < (600 : Nat)) ∧ (0 ≤ (w32 ((plF ((up μ 265 27 (w32 (((μ) 265 27) - 1))) 265 42) ((μ) 288 (Int.toNat (w32 (((μ) 265 27) - 1)))) ((μ) 289 (Int.toNat (w32 (((μ) 265 27) - 1)))) ((μ) 290 (Int.toNat (w32 (((μ) 265 27) - 1)))) ((μ) 291 (Int.toNat (w32 (((μ) 265 27) - 1))))) + ((μ) 285 (Int.toNat (w32 (((μ) 265 27) - 1)))))) ∧ (w32 ((plF ((up μ 265 27 (w32 (((μ) 265 27) - 1))) 265 42) ((μ) 288 (Int.toNat (w32 (((μ) 265 27) - 1)))) ((μ) 289 (Int.toNat (w32 (((μ) 265 27) - 1)))) ((μ) 290 (Int.toNat (w32 (((μ) 265 27) - 1)))) ((μ) 291 (Int.toNat (w32 (((μ) 265 27) - 1))))) + ((μ) 285 (Int.toNat (w32 (((μ) 265 27) - 1)))))) < (55688 : Nat)) ∧ X mX10_lay 0 [(0, vR 265), (1, vI ((μ) 296 (Int.toNat (w32 ((plF ((up μ 265 27 (w32 (((μ) 265 27) - 1))) 265 42) ((μ) 288 (Int.toNat (w32 (((μ) 265 27) - 1)))) ((μ) 289 (Int.toNat (w32 (((μ) 265 27) - 1)))) ((μ) 290 (Int.toNat (w32 (((μ) 265 27) - 1)))) ((μ) 291 (Int.toNat (w32 (((μ) 265 27) - 1))))) + ((μ) 285 (Int.toNat (w32 (((μ) 265 27) - 1))))))))), (2, vI ((μ) 290 (Int.toNat (w32 (((μ) 265 27) - 1))))), (3, vI ((μ) 291 (Int.toNat (w32 (((μ) 265 27) - 1)))))] [] sh (ν) (up μ 265 27 (w32 (((μ) 265 27) - 1))) 0 0 (fun v sh' ν' μ' => X mX10_bestStep 193 [(0, vR 265), (1, vI x1), (3, vI ((μ) 296 (Int.toNat (w32 ((plF ((up μ 265 27 (w32 (((μ) 265 27) - 1))) 265 42) ((μ) 288 (Int.toNat (w32 (((μ) 265 27) - 1)))) ((μ) 289 (Int.toNat (w32 (((μ) 265 27) - 1)))) ((μ) 290 (Int.toNat (w32 (((μ) 265 27) - 1)))) ((μ) 291 (Int.toNat (w32 (((μ) 265 27) - 1))))) + ((μ) 285 (Int.toNat (w32 (((μ) 265 27) - 1))))))))), (4, vI x4), (5, vI ((μ) 288 (Int.toNat (w32 (((μ) 265 27) - 1))))), (6, vI ((μ) 289 (Int.toNat (w32 (((μ) 265 27) - 1))))), (7, vI ((μ) 290 (Int.toNat (w32 (((μ) 265 27) - 1))))), (8, vI ((μ) 291 (Int.toNat (w32 (((μ) 265 27) - 1)))))] (v.toList ++ []) sh' ν' μ' 0 0 Q)))) :
    X mX10_bestStep 96 [(0, vR 265), (1, vI x1), (3, vI x3), (4, vI x4)] [] sh ν μ 0 0 Q := by
  refine X.iload (pc := 96) (i := 4) 3 dX10_bestStep_96 rfl ?_
  refine X.iload_n (pc := 98) (i := 1) 1 dX10_bestStep_98 rfl rfl ?_
  refine X.icmp_gt (pc := 99) 216 dX10_bestStep_99 (by decide) ⟨fun q9 => ?_, fun q9 => ?_⟩
  · have h := h.1 q9
    refine X.iload_n (pc := 216) (i := 3) 2 dX10_bestStep_216 rfl rfl ?_
    exact X.iret (pc := 217) dX10_bestStep_217 rfl (Nat.le_of_ble_eq_true rfl) (Nat.le_of_ble_eq_true rfl) h
  · have h := h.2 q9
    refine X.aload_n (pc := 102) (i := 0) 0 dX10_bestStep_102 rfl rfl ?_
    refine X.dup (pc := 103) dX10_bestStep_103 rfl ?_
    refine X.getI (pc := 104) dX10_bestStep_104 fl_X10_190 rfl (fs_X10 hW) ?_
    refine X.iconst (pc := 107) dX10_bestStep_107 ⟨by decide, by decide⟩ ?_
    refine X.isub (pc := 108) dX10_bestStep_108 ?_
    refine X.putI (pc := 109) dX10_bestStep_109 fl_X10_190 rfl (fun h9 => by cases h9) (fs_X10 hW) (Or.inl rfl) ?_
    refine X.aload_n (pc := 112) (i := 0) 0 dX10_bestStep_112 rfl rfl ?_
    refine X.getR (pc := 113) (b := 288) dX10_bestStep_113 fl_X10_77 rfl (fs_X10 hW) (fp_X10_31 hW) ?_
    refine X.aload_n (pc := 116) (i := 0) 0 dX10_bestStep_116 rfl rfl ?_
    refine X.getI (pc := 117) dX10_bestStep_117 fl_X10_190 rfl (fs_X10 hW) ?_
    refine X.topI (y := (w32 (((μ) 265 27) - 1))) ((up_s _ _ _ _)) ?_
    obtain ⟨c1, h⟩ := h
    refine X.iaload (pc := 120) dX10_bestStep_120 (fa_X10_31 hW) c1 ?_
    refine X.topI (y := ((μ) 288 (Int.toNat (w32 (((μ) 265 27) - 1))))) ((up_a (by decide) _)) ?_
    refine X.istore (pc := 121) (i := 5) (ls' := [(5, vI ((μ) 288 (Int.toNat (w32 (((μ) 265 27) - 1))))), (0, vR 265), (1, vI x1), (3, vI x3), (4, vI x4)]) dX10_bestStep_121 (by decide) rfl ?_
    refine X.aload_n (pc := 123) (i := 0) 1 dX10_bestStep_123 rfl rfl ?_
    refine X.getR (pc := 124) (b := 289) dX10_bestStep_124 fl_X10_80 rfl (fs_X10 hW) (fp_X10_32 hW) ?_
    refine X.aload_n (pc := 127) (i := 0) 1 dX10_bestStep_127 rfl rfl ?_
    refine X.getI (pc := 128) dX10_bestStep_128 fl_X10_190 rfl (fs_X10 hW) ?_
    refine X.topI (y := (w32 (((μ) 265 27) - 1))) ((up_s _ _ _ _)) ?_
    obtain ⟨c2, h⟩ := h
    refine X.iaload (pc := 131) dX10_bestStep_131 (fa_X10_32 hW) c2 ?_
    refine X.topI (y := ((μ) 289 (Int.toNat (w32 (((μ) 265 27) - 1))))) ((up_a (by decide) _)) ?_
    refine X.istore (pc := 132) (i := 6) (ls' := [(6, vI ((μ) 289 (Int.toNat (w32 (((μ) 265 27) - 1))))), (5, vI ((μ) 288 (Int.toNat (w32 (((μ) 265 27) - 1))))), (0, vR 265), (1, vI x1), (3, vI x3), (4, vI x4)]) dX10_bestStep_132 (by decide) rfl ?_
    refine X.aload_n (pc := 134) (i := 0) 2 dX10_bestStep_134 rfl rfl ?_
    refine X.getR (pc := 135) (b := 290) dX10_bestStep_135 fl_X10_83 rfl (fs_X10 hW) (fp_X10_33 hW) ?_
    refine X.aload_n (pc := 138) (i := 0) 2 dX10_bestStep_138 rfl rfl ?_
    refine X.getI (pc := 139) dX10_bestStep_139 fl_X10_190 rfl (fs_X10 hW) ?_
    refine X.topI (y := (w32 (((μ) 265 27) - 1))) ((up_s _ _ _ _)) ?_
    obtain ⟨c3, h⟩ := h
    refine X.iaload (pc := 142) dX10_bestStep_142 (fa_X10_33 hW) c3 ?_
    refine X.topI (y := ((μ) 290 (Int.toNat (w32 (((μ) 265 27) - 1))))) ((up_a (by decide) _)) ?_
    refine X.istore (pc := 143) (i := 7) (ls' := [(7, vI ((μ) 290 (Int.toNat (w32 (((μ) 265 27) - 1))))), (6, vI ((μ) 289 (Int.toNat (w32 (((μ) 265 27) - 1))))), (5, vI ((μ) 288 (Int.toNat (w32 (((μ) 265 27) - 1))))), (0, vR 265), (1, vI x1), (3, vI x3), (4, vI x4)]) dX10_bestStep_143 (by decide) rfl ?_
    refine X.aload_n (pc := 145) (i := 0) 3 dX10_bestStep_145 rfl rfl ?_
    refine X.getR (pc := 146) (b := 291) dX10_bestStep_146 fl_X10_86 rfl (fs_X10 hW) (fp_X10_34 hW) ?_
    refine X.aload_n (pc := 149) (i := 0) 3 dX10_bestStep_149 rfl rfl ?_
    refine X.getI (pc := 150) dX10_bestStep_150 fl_X10_190 rfl (fs_X10 hW) ?_
    refine X.topI (y := (w32 (((μ) 265 27) - 1))) ((up_s _ _ _ _)) ?_
    obtain ⟨c4, h⟩ := h
    refine X.iaload (pc := 153) dX10_bestStep_153 (fa_X10_34 hW) c4 ?_
    refine X.topI (y := ((μ) 291 (Int.toNat (w32 (((μ) 265 27) - 1))))) ((up_a (by decide) _)) ?_
    refine X.istore (pc := 154) (i := 8) (ls' := [(8, vI ((μ) 291 (Int.toNat (w32 (((μ) 265 27) - 1))))), (7, vI ((μ) 290 (Int.toNat (w32 (((μ) 265 27) - 1))))), (6, vI ((μ) 289 (Int.toNat (w32 (((μ) 265 27) - 1))))), (5, vI ((μ) 288 (Int.toNat (w32 (((μ) 265 27) - 1))))), (0, vR 265), (1, vI x1), (3, vI x3), (4, vI x4)]) dX10_bestStep_154 (by decide) rfl ?_
    refine X.aload_n (pc := 156) (i := 0) 4 dX10_bestStep_156 rfl rfl ?_
    refine X.getR (pc := 157) (b := 296) dX10_bestStep_157 fl_X10_103 rfl (fs_X10 hW) (fp_X10_41 hW) ?_
    refine X.aload_n (pc := 160) (i := 0) 4 dX10_bestStep_160 rfl rfl ?_
    refine X.iload (pc := 161) (i := 5) 3 dX10_bestStep_161 rfl ?_
    refine X.iload (pc := 163) (i := 6) 2 dX10_bestStep_163 rfl ?_
    refine X.iload (pc := 165) (i := 7) 1 dX10_bestStep_165 rfl ?_
    refine X.iload (pc := 167) (i := 8) 0 dX10_bestStep_167 rfl ?_
    refine X.pick [4, 5, 7, 3, 2, 1, 0] rfl ?_
    obtain ⟨c5, h⟩ := h
    obtain ⟨c6, h⟩ := h
    obtain ⟨c7, h⟩ := h
    obtain ⟨c8, h⟩ := h
    refine X.callV (pc := 169) (vs := [vI ((μ) 288 (Int.toNat (w32 (((μ) 265 27) - 1)))), vI ((μ) 289 (Int.toNat (w32 (((μ) 265 27) - 1)))), vI ((μ) 290 (Int.toNat (w32 (((μ) 265 27) - 1)))), vI ((μ) 291 (Int.toNat (w32 (((μ) 265 27) - 1))))]) (st := [vR 296]) dX10_bestStep_169 rfl okM_X10_place rfl lk_X10_245 inst_X10_place sel_X10_place (fs_X10 hW) rfl ⟨⟨by decide, by decide⟩, ⟨by decide, by decide⟩, Nat.le_of_ble_eq_true rfl⟩ (Nat.le_of_ble_eq_true rfl) (c_X10_place hW c5 c6 c7 c8 ?_)
    refine X.nrm (pc' := 172) (ls' := [(0, vR 265), (1, vI x1), (4, vI x4), (5, vI ((μ) 288 (Int.toNat (w32 (((μ) 265 27) - 1))))), (6, vI ((μ) 289 (Int.toNat (w32 (((μ) 265 27) - 1))))), (7, vI ((μ) 290 (Int.toNat (w32 (((μ) 265 27) - 1))))), (8, vI ((μ) 291 (Int.toNat (w32 (((μ) 265 27) - 1)))))]) (st' := [vI (plF ((up μ 265 27 (w32 (((μ) 265 27) - 1))) 265 42) ((μ) 288 (Int.toNat (w32 (((μ) 265 27) - 1)))) ((μ) 289 (Int.toNat (w32 (((μ) 265 27) - 1)))) ((μ) 290 (Int.toNat (w32 (((μ) 265 27) - 1)))) ((μ) 291 (Int.toNat (w32 (((μ) 265 27) - 1))))), vR 296]) (k' := 0) (n' := 0) rfl rfl rfl rfl rfl ?_
    refine X.aload_n (pc := 172) (i := 0) 0 dX10_bestStep_172 rfl rfl ?_
    refine X.getR (pc := 173) (b := 285) dX10_bestStep_173 fl_X10_68 rfl (fs_X10 hW) (fp_X10_28 hW) ?_
    refine X.aload_n (pc := 176) (i := 0) 0 dX10_bestStep_176 rfl rfl ?_
    refine X.getI (pc := 177) dX10_bestStep_177 fl_X10_190 rfl (fs_X10 hW) ?_
    refine X.topI (y := (w32 (((μ) 265 27) - 1))) ((up_s _ _ _ _)) ?_
    obtain ⟨c9, h⟩ := h
    refine X.iaload (pc := 180) dX10_bestStep_180 (fa_X10_28 hW) c9 ?_
    refine X.topI (y := ((μ) 285 (Int.toNat (w32 (((μ) 265 27) - 1))))) ((up_a (by decide) _)) ?_
    refine X.iadd (pc := 181) dX10_bestStep_181 ?_
    obtain ⟨c10, h⟩ := h
    refine X.iaload (pc := 182) dX10_bestStep_182 (fa_X10_41 hW) c10 ?_
    refine X.topI (y := ((μ) 296 (Int.toNat (w32 ((plF ((up μ 265 27 (w32 (((μ) 265 27) - 1))) 265 42) ((μ) 288 (Int.toNat (w32 (((μ) 265 27) - 1)))) ((μ) 289 (Int.toNat (w32 (((μ) 265 27) - 1)))) ((μ) 290 (Int.toNat (w32 (((μ) 265 27) - 1)))) ((μ) 291 (Int.toNat (w32 (((μ) 265 27) - 1))))) + ((μ) 285 (Int.toNat (w32 (((μ) 265 27) - 1))))))))) ((up_a (by decide) _)) ?_
    refine X.istore_n (pc := 183) (i := 3) (ls' := [(3, vI ((μ) 296 (Int.toNat (w32 ((plF ((up μ 265 27 (w32 (((μ) 265 27) - 1))) 265 42) ((μ) 288 (Int.toNat (w32 (((μ) 265 27) - 1)))) ((μ) 289 (Int.toNat (w32 (((μ) 265 27) - 1)))) ((μ) 290 (Int.toNat (w32 (((μ) 265 27) - 1)))) ((μ) 291 (Int.toNat (w32 (((μ) 265 27) - 1))))) + ((μ) 285 (Int.toNat (w32 (((μ) 265 27) - 1))))))))), (0, vR 265), (1, vI x1), (4, vI x4), (5, vI ((μ) 288 (Int.toNat (w32 (((μ) 265 27) - 1))))), (6, vI ((μ) 289 (Int.toNat (w32 (((μ) 265 27) - 1))))), (7, vI ((μ) 290 (Int.toNat (w32 (((μ) 265 27) - 1))))), (8, vI ((μ) 291 (Int.toNat (w32 (((μ) 265 27) - 1)))))]) dX10_bestStep_183 rfl (by decide) rfl ?_
    refine X.aload_n (pc := 184) (i := 0) 1 dX10_bestStep_184 rfl rfl ?_
    refine X.iload_n (pc := 185) (i := 3) 0 dX10_bestStep_185 rfl rfl ?_
    refine X.iload (pc := 186) (i := 7) 6 dX10_bestStep_186 rfl ?_
    refine X.iload (pc := 188) (i := 8) 7 dX10_bestStep_188 rfl ?_
    refine X.pick [1, 2, 0, 3, 4, 5, 6, 7] rfl ?_
    exact X.callV (pc := 190) (vs := [vI ((μ) 296 (Int.toNat (w32 ((plF ((up μ 265 27 (w32 (((μ) 265 27) - 1))) 265 42) ((μ) 288 (Int.toNat (w32 (((μ) 265 27) - 1)))) ((μ) 289 (Int.toNat (w32 (((μ) 265 27) - 1)))) ((μ) 290 (Int.toNat (w32 (((μ) 265 27) - 1)))) ((μ) 291 (Int.toNat (w32 (((μ) 265 27) - 1))))) + ((μ) 285 (Int.toNat (w32 (((μ) 265 27) - 1)))))))), vI ((μ) 290 (Int.toNat (w32 (((μ) 265 27) - 1)))), vI ((μ) 291 (Int.toNat (w32 (((μ) 265 27) - 1))))]) (st := []) dX10_bestStep_190 rfl okM_X10_lay rfl lk_X10_186 inst_X10_lay sel_X10_lay (fs_X10 hW) rfl ⟨⟨by decide, by decide⟩, ⟨by decide, by decide⟩, Nat.le_of_ble_eq_true rfl⟩ (Nat.le_of_ble_eq_true rfl) h

theorem g_X10_bestStep_193 {sh : List (Nat × Nat)} {ν : Nat → Nat → Option Nat} {μ : Nat → Nat → Int} {f s : Nat} {Q : xQ} (hW : WF sh ν f s) {x1 : Int} {x3 : Int} {x4 : Int} {x5 : Int} {x6 : Int} {x7 : Int} {x8 : Int} {y0 : Int}
    (h : X mX10_putPieces 0 [(0, vR 265), (1, vI x3), (2, vI 0), (3, vI 0), (4, vI x5), (5, vI x6), (6, vI x7), (7, vI x8)] [] sh (ν) (μ) 0 0 (fun v sh' ν' μ' => X mX10_bestStep 210 [(0, vR 265), (1, vI x1), (3, vI x3), (4, vI x4)] (v.toList ++ []) sh' ν' μ' 0 0 Q)) :
    X mX10_bestStep 193 [(0, vR 265), (1, vI x1), (3, vI x3), (4, vI x4), (5, vI x5), (6, vI x6), (7, vI x7), (8, vI x8)] [vI y0] sh ν μ 0 0 Q := by
  refine X.istore (pc := 193) (i := 9) (ls' := [(9, vI y0), (0, vR 265), (1, vI x1), (3, vI x3), (4, vI x4), (5, vI x5), (6, vI x6), (7, vI x7), (8, vI x8)]) dX10_bestStep_193 (by decide) rfl ?_
  refine X.aload_n (pc := 195) (i := 0) 1 dX10_bestStep_195 rfl rfl ?_
  refine X.iload_n (pc := 196) (i := 3) 3 dX10_bestStep_196 rfl rfl ?_
  refine X.iconst (pc := 197) dX10_bestStep_197 ⟨by decide, by decide⟩ ?_
  refine X.iconst (pc := 198) dX10_bestStep_198 ⟨by decide, by decide⟩ ?_
  refine X.iload (pc := 199) (i := 5) 5 dX10_bestStep_199 rfl ?_
  refine X.iload (pc := 201) (i := 6) 6 dX10_bestStep_201 rfl ?_
  refine X.iload (pc := 203) (i := 7) 7 dX10_bestStep_203 rfl ?_
  refine X.iload (pc := 205) (i := 8) 8 dX10_bestStep_205 rfl ?_
  refine X.pick [1, 2, 3, 4] rfl ?_
  exact X.callV (pc := 207) (vs := [vI x3, vI 0, vI 0, vI x5, vI x6, vI x7, vI x8]) (st := []) dX10_bestStep_207 rfl okM_X10_putPieces rfl lk_X10_207 inst_X10_putPieces sel_X10_putPieces (fs_X10 hW) rfl ⟨⟨by decide, by decide⟩, ⟨by decide, by decide⟩, Nat.le_of_ble_eq_true rfl⟩ (Nat.le_of_ble_eq_true rfl) h

theorem g_X10_bestStep_210 {sh : List (Nat × Nat)} {ν : Nat → Nat → Option Nat} {μ : Nat → Nat → Int} {f s : Nat} {Q : xQ} (hW : WF sh ν f s) {x1 : Int} {x3 : Int} {x4 : Int}
    (h : X mX10_bestStep 96 [(0, vR 265), (1, vI x1), (3, vI x3), (4, vI (w32 (x4 + 1)))] [] sh (ν) (μ) 0 0 Q) :
    X mX10_bestStep 210 [(0, vR 265), (1, vI x1), (3, vI x3), (4, vI x4)] [] sh ν μ 0 0 Q := by
  refine X.iinc (pc := 210) (i := 4) (ls' := [(4, vI (w32 (x4 + 1))), (0, vR 265), (1, vI x1), (3, vI x3)]) 3 dX10_bestStep_210 rfl (by decide) rfl ?_
  refine X.goto (pc := 213) (tgt := 96) dX10_bestStep_213 (by decide) ?_
  exact X.pick [1, 2, 3, 0] rfl h

theorem g_X10_stands_0 {sh : List (Nat × Nat)} {ν : Nat → Nat → Option Nat} {μ : Nat → Nat → Int} {f s : Nat} {Q : xQ} (hW : WF sh ν f s) {x1 : Int} {x2 : Int} {x3 : Int} {x4 : Int}
    (h : ((¬ (0 ≤ x1 ∧ x1 ≤ 7) → Q (some (vL (-1))) sh (ν) (μ)) ∧ ((0 ≤ x1 ∧ x1 ≤ 7) → (((0 ≤ x2 ∧ x2 ≤ 80 ∧ x2 % 9 < (μ) 265 35 ∧ x2 / 9 < (μ) 265 36) → ((¬ (1 ≤ x3 ∧ x3 ≤ (w32 (((μ) 265 35) - (w32 (Int.tmod x2 9))))) → Q (some (vL (-2))) sh (ν) (μ)) ∧ ((1 ≤ x3 ∧ x3 ≤ (w32 (((μ) 265 35) - (w32 (Int.tmod x2 9))))) → (((1 ≤ x4 ∧ x4 ≤ (w32 (((μ) 265 36) - (w32 (Int.tdiv x2 9))))) → X mX10_workBoard 0 [(0, vR 265)] [] sh (ν) (μ) 0 0 (fun v sh' ν' μ' => X mX10_stands 66 [(0, vR 265), (1, vI x1), (2, vI x2), (3, vI x3), (4, vI x4)] (v.toList ++ []) sh' ν' μ' 0 0 Q)) ∧ (¬ (1 ≤ x4 ∧ x4 ≤ (w32 (((μ) 265 36) - (w32 (Int.tdiv x2 9))))) → Q (some (vL (-2))) sh (ν) (μ)))))) ∧ (¬ (0 ≤ x2 ∧ x2 ≤ 80 ∧ x2 % 9 < (μ) 265 35 ∧ x2 / 9 < (μ) 265 36) → Q (some (vL (-1))) sh (ν) (μ)))))) :
    X mX10_stands 0 [(0, vR 265), (1, vI x1), (2, vI x2), (3, vI x3), (4, vI x4)] [] sh ν μ 0 0 Q := by
  refine X.iload_n (pc := 0) (i := 1) 1 dX10_stands_0 rfl rfl ?_
  refine X.callS (pc := 1) (vs := [vI x1]) (st := []) dX10_stands_1 rfl okM_X10_isName rfl lk_X10_135 stat_X10_isName ⟨⟨by decide, by decide⟩, ⟨by decide, by decide⟩, Nat.le_of_ble_eq_true rfl⟩ (Nat.le_of_ble_eq_true rfl) (c_X10_isName hW ?_)
  refine X.nrm (pc' := 4) (ls' := [(0, vR 265), (1, vI x1), (2, vI x2), (3, vI x3), (4, vI x4)]) (st' := [vI (bI (0 ≤ x1 ∧ x1 ≤ 7))]) (k' := 0) (n' := 0) rfl rfl rfl rfl rfl ?_
  refine X.if_eq (pc := 4) 15 dX10_stands_4 (by decide) ⟨fun q9 => ?_, fun q9 => ?_⟩
  · have h := h.1 (bI_eq.mp q9)
    refine X.ldc2 (pc := 15) (y := -1) dX10_stands_15 kc_X10_283 rfl ⟨by decide, by decide⟩ ?_
    exact X.lret (pc := 18) dX10_stands_18 rfl (Nat.le_of_ble_eq_true rfl) (Nat.le_of_ble_eq_true rfl) h
  · have h := h.2 (bI_ne.mp q9)
    refine X.aload_n (pc := 7) (i := 0) 0 dX10_stands_7 rfl rfl ?_
    refine X.iload_n (pc := 8) (i := 2) 2 dX10_stands_8 rfl rfl ?_
    refine X.callV (pc := 9) (vs := [vI x2]) (st := []) dX10_stands_9 rfl okM_X10_isPlace rfl lk_X10_226 inst_X10_isPlace sel_X10_isPlace (fs_X10 hW) rfl ⟨⟨by decide, by decide⟩, ⟨by decide, by decide⟩, Nat.le_of_ble_eq_true rfl⟩ (Nat.le_of_ble_eq_true rfl) (c_X10_isPlace hW ?_)
    refine X.nrm (pc' := 12) (ls' := [(0, vR 265), (1, vI x1), (2, vI x2), (3, vI x3), (4, vI x4)]) (st' := [vI (bI (0 ≤ x2 ∧ x2 ≤ 80 ∧ x2 % 9 < (μ) 265 35 ∧ x2 / 9 < (μ) 265 36))]) (k' := 0) (n' := 0) rfl rfl rfl rfl rfl ?_
    refine X.if_ne (pc := 12) 19 dX10_stands_12 (by decide) ⟨fun q9 => ?_, fun q9 => ?_⟩
    · have h := h.1 (bI_ne.mp q9)
      refine X.iload_n (pc := 19) (i := 3) 3 dX10_stands_19 rfl rfl ?_
      refine X.i2l (pc := 20) dX10_stands_20 ?_
      refine X.lconst (pc := 21) (y := 1) dX10_stands_21 rfl ⟨by decide, by decide⟩ ?_
      refine X.aload_n (pc := 22) (i := 0) 0 dX10_stands_22 rfl rfl ?_
      refine X.getI (pc := 23) dX10_stands_23 fl_X10_218 rfl (fs_X10 hW) ?_
      refine X.iload_n (pc := 26) (i := 2) 2 dX10_stands_26 rfl rfl ?_
      refine X.bipush (pc := 27) (y := 9) dX10_stands_27 rfl ⟨by decide, by decide⟩ ?_
      refine X.irem (pc := 29) dX10_stands_29 (by decide) ?_
      refine X.isub (pc := 30) dX10_stands_30 ?_
      refine X.i2l (pc := 31) dX10_stands_31 ?_
      refine X.callS (pc := 32) (vs := [vL x3, vL 1, vL (w32 (((μ) 265 35) - (w32 (Int.tmod x2 9))))]) (st := []) dX10_stands_32 rfl okM_X10_in rfl lk_X10_124 stat_X10_in ⟨⟨by decide, by decide⟩, ⟨by decide, by decide⟩, Nat.le_of_ble_eq_true rfl⟩ (Nat.le_of_ble_eq_true rfl) (c_X10_in hW ?_)
      refine X.nrm (pc' := 35) (ls' := [(0, vR 265), (1, vI x1), (2, vI x2), (3, vI x3), (4, vI x4)]) (st' := [vI (bI (1 ≤ x3 ∧ x3 ≤ (w32 (((μ) 265 35) - (w32 (Int.tmod x2 9))))))]) (k' := 0) (n' := 0) rfl rfl rfl rfl rfl ?_
      refine X.if_eq (pc := 35) 58 dX10_stands_35 (by decide) ⟨fun q9 => ?_, fun q9 => ?_⟩
      · have h := h.1 (bI_eq.mp q9)
        refine X.ldc2 (pc := 58) (y := -2) dX10_stands_58 kc_X10_285 rfl ⟨by decide, by decide⟩ ?_
        exact X.lret (pc := 61) dX10_stands_61 rfl (Nat.le_of_ble_eq_true rfl) (Nat.le_of_ble_eq_true rfl) h
      · have h := h.2 (bI_ne.mp q9)
        refine X.iload (pc := 38) (i := 4) 4 dX10_stands_38 rfl ?_
        refine X.i2l (pc := 40) dX10_stands_40 ?_
        refine X.lconst (pc := 41) (y := 1) dX10_stands_41 rfl ⟨by decide, by decide⟩ ?_
        refine X.aload_n (pc := 42) (i := 0) 0 dX10_stands_42 rfl rfl ?_
        refine X.getI (pc := 43) dX10_stands_43 fl_X10_221 rfl (fs_X10 hW) ?_
        refine X.iload_n (pc := 46) (i := 2) 2 dX10_stands_46 rfl rfl ?_
        refine X.bipush (pc := 47) (y := 9) dX10_stands_47 rfl ⟨by decide, by decide⟩ ?_
        refine X.idiv (pc := 49) dX10_stands_49 (by decide) ?_
        refine X.isub (pc := 50) dX10_stands_50 ?_
        refine X.i2l (pc := 51) dX10_stands_51 ?_
        refine X.callS (pc := 52) (vs := [vL x4, vL 1, vL (w32 (((μ) 265 36) - (w32 (Int.tdiv x2 9))))]) (st := []) dX10_stands_52 rfl okM_X10_in rfl lk_X10_124 stat_X10_in ⟨⟨by decide, by decide⟩, ⟨by decide, by decide⟩, Nat.le_of_ble_eq_true rfl⟩ (Nat.le_of_ble_eq_true rfl) (c_X10_in hW ?_)
        refine X.nrm (pc' := 55) (ls' := [(0, vR 265), (1, vI x1), (2, vI x2), (3, vI x3), (4, vI x4)]) (st' := [vI (bI (1 ≤ x4 ∧ x4 ≤ (w32 (((μ) 265 36) - (w32 (Int.tdiv x2 9))))))]) (k' := 0) (n' := 0) rfl rfl rfl rfl rfl ?_
        refine X.if_ne (pc := 55) 62 dX10_stands_55 (by decide) ⟨fun q9 => ?_, fun q9 => ?_⟩
        · have h := h.1 (bI_ne.mp q9)
          refine X.aload_n (pc := 62) (i := 0) 0 dX10_stands_62 rfl rfl ?_
          exact X.callV (pc := 63) (vs := []) (st := []) dX10_stands_63 rfl okM_X10_workBoard rfl lk_X10_290 inst_X10_workBoard sel_X10_workBoard (fs_X10 hW) rfl ⟨⟨by decide, by decide⟩, ⟨by decide, by decide⟩, Nat.le_of_ble_eq_true rfl⟩ (Nat.le_of_ble_eq_true rfl) h
        · have h := h.2 (bI_eq.mp q9)
          refine X.ldc2 (pc := 58) (y := -2) dX10_stands_58 kc_X10_285 rfl ⟨by decide, by decide⟩ ?_
          exact X.lret (pc := 61) dX10_stands_61 rfl (Nat.le_of_ble_eq_true rfl) (Nat.le_of_ble_eq_true rfl) h
    · have h := h.2 (bI_eq.mp q9)
      refine X.ldc2 (pc := 15) (y := -1) dX10_stands_15 kc_X10_283 rfl ⟨by decide, by decide⟩ ?_
      exact X.lret (pc := 18) dX10_stands_18 rfl (Nat.le_of_ble_eq_true rfl) (Nat.le_of_ble_eq_true rfl) h

theorem g_X10_stands_66 {sh : List (Nat × Nat)} {ν : Nat → Nat → Option Nat} {μ : Nat → Nat → Int} {f s : Nat} {Q : xQ} (hW : WF sh ν f s) {x1 : Int} {x2 : Int} {x3 : Int} {x4 : Int}
    (h : ((0 : Int) ≤ (w32 (Int.tmod x2 9)) ∧ ((w32 (Int.tmod x2 9)) : Int) ≤ 20) ∧ ((0 : Int) ≤ (w32 (Int.tdiv x2 9)) ∧ ((w32 (Int.tdiv x2 9)) : Int) ≤ 20) ∧ ((1 : Int) ≤ x3 ∧ (x3 : Int) ≤ 20) ∧ ((1 : Int) ≤ x4 ∧ (x4 : Int) ≤ 20) ∧ (0 ≤ (w32 ((plF ((μ) 265 42) (w32 (Int.tmod x2 9)) (w32 (Int.tdiv x2 9)) x3 x4) + x1)) ∧ (w32 ((plF ((μ) 265 42) (w32 (Int.tmod x2 9)) (w32 (Int.tdiv x2 9)) x3 x4) + x1)) < (55688 : Nat)) ∧ Q (some (vL ((μ) 293 (Int.toNat (w32 ((plF ((μ) 265 42) (w32 (Int.tmod x2 9)) (w32 (Int.tdiv x2 9)) x3 x4) + x1)))))) sh (ν) (μ)) :
    X mX10_stands 66 [(0, vR 265), (1, vI x1), (2, vI x2), (3, vI x3), (4, vI x4)] [] sh ν μ 0 0 Q := by
  refine X.aload_n (pc := 66) (i := 0) 0 dX10_stands_66 rfl rfl ?_
  refine X.getR (pc := 67) (b := 293) dX10_stands_67 fl_X10_93 rfl (fs_X10 hW) (fp_X10_38 hW) ?_
  refine X.aload_n (pc := 70) (i := 0) 0 dX10_stands_70 rfl rfl ?_
  refine X.iload_n (pc := 71) (i := 2) 2 dX10_stands_71 rfl rfl ?_
  refine X.bipush (pc := 72) (y := 9) dX10_stands_72 rfl ⟨by decide, by decide⟩ ?_
  refine X.irem (pc := 74) dX10_stands_74 (by decide) ?_
  refine X.iload_n (pc := 75) (i := 2) 2 dX10_stands_75 rfl rfl ?_
  refine X.bipush (pc := 76) (y := 9) dX10_stands_76 rfl ⟨by decide, by decide⟩ ?_
  refine X.idiv (pc := 78) dX10_stands_78 (by decide) ?_
  refine X.iload_n (pc := 79) (i := 3) 3 dX10_stands_79 rfl rfl ?_
  refine X.iload (pc := 80) (i := 4) 4 dX10_stands_80 rfl ?_
  refine X.pick [1] rfl ?_
  obtain ⟨c1, h⟩ := h
  obtain ⟨c2, h⟩ := h
  obtain ⟨c3, h⟩ := h
  obtain ⟨c4, h⟩ := h
  refine X.callV (pc := 82) (vs := [vI (w32 (Int.tmod x2 9)), vI (w32 (Int.tdiv x2 9)), vI x3, vI x4]) (st := [vR 293]) dX10_stands_82 rfl okM_X10_place rfl lk_X10_245 inst_X10_place sel_X10_place (fs_X10 hW) rfl ⟨⟨by decide, by decide⟩, ⟨by decide, by decide⟩, Nat.le_of_ble_eq_true rfl⟩ (Nat.le_of_ble_eq_true rfl) (c_X10_place hW c1 c2 c3 c4 ?_)
  refine X.nrm (pc' := 85) (ls' := [(1, vI x1)]) (st' := [vI (plF ((μ) 265 42) (w32 (Int.tmod x2 9)) (w32 (Int.tdiv x2 9)) x3 x4), vR 293]) (k' := 0) (n' := 0) rfl rfl rfl rfl rfl ?_
  refine X.iload_n (pc := 85) (i := 1) 0 dX10_stands_85 rfl rfl ?_
  refine X.iadd (pc := 86) dX10_stands_86 ?_
  obtain ⟨c5, h⟩ := h
  refine X.laload (pc := 87) dX10_stands_87 (fa_X10_38 hW) c5 ?_
  exact X.lret (pc := 88) dX10_stands_88 rfl (Nat.le_of_ble_eq_true rfl) (Nat.le_of_ble_eq_true rfl) h

