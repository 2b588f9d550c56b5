/-! constructors: rules, the grammar -/
theorem nl_X3_9 : xNL RX3 9 7 := ⟨RX7, TX7, 9, cl_X7, ck_X3_9, x_in (i := 109) (by decide +kernel) rfl, x_in (i := 49) (by decide +kernel) rfl, by decide +kernel⟩
theorem c_X7_init {ν : Nat → Nat → Option Nat} {μ : Nat → Nat → Int} {Q : xQ} {a K : Nat} (ha : SH[a]? = some (6, 7)) (haK : a < K) (h0 : SH[K]? = some (6, 6)) (h1 : SH[K + 1]? = some (0, 6)) (h2 : SH[K + 2]? = some (0, 6)) (h3 : SH[K + 3]? = some (0, 6)) (hF : Fr K ν μ) (h : Q none (SH.take (K + 4)) ((upr (upr (upr (upr ν K 0 (some (K + 1))) K 1 (some (K + 2))) K 2 (some (K + 3))) a 0 (some K))) ((up (up (up (up (up (up (up (up (up (up (up μ K 3 0) K 4 0) K 5 0) a 1 0) a 2 0) a 3 0) a 4 (-9)) a 5 1) a 6 20) a 7 1) a 8 20))) : X mX7_init 0 [(0, vR a)] [] (SH.take K) ν μ 0 0 Q := by
  refine X.aload_n (pc := 0) (i := 0) 0 dX7_init_0 rfl rfl ?_
  refine X.objInit (pc := 1) dX7_init_1 lk_X7_3 w_oi w_oc (by decide) (Nat.le_of_ble_eq_true rfl) ?_
  refine X.aload_n (pc := 4) (i := 0) 0 dX7_init_4 rfl rfl ?_
  refine T.new (pc := 5) (ci := 6) (K := K) (K' := K + 1) (k' := 1) (n' := 6) dX7_init_5 nl_X7_9 h0 hF rfl rfl rfl (Nat.le_of_ble_eq_true rfl) (Nat.le_of_ble_eq_true rfl) ?_
  refine X.dup (pc := 8) dX7_init_8 rfl ?_
  refine X.callIN (pc := 9) (vs := []) (st := [vR K, vR a]) dX7_init_9 rfl okM_X6_init rfl nk_X7_11 inst_X6_init rfl rfl ⟨⟨by decide, by decide⟩, ⟨by decide, by decide⟩, Nat.le_of_ble_eq_true rfl⟩ (Nat.le_of_ble_eq_true rfl) ?_
  refine c_X6_init (a := K) (K := K + 1) h0 (by omega) h1 h2 h3 (Fr_m (K' := K + 1) (by omega) hF) ?_
  refine X.nrm (pc' := 12) (ls' := [(0, vR a)]) (st' := [vR K, vR a]) (k' := 4) (n' := 24) rfl rfl rfl rfl rfl ?_
  refine X.putR (pc := 12) dX7_init_12 fl_X7_12 rfl (fun _ => ⟨rfl, rfl⟩) (shT (by omega) ha) ?_
  refine X.aload_n (pc := 15) (i := 0) 0 dX7_init_15 rfl rfl ?_
  refine X.iconst (pc := 16) dX7_init_16 ⟨by decide, by decide⟩ ?_
  refine X.putI (pc := 17) dX7_init_17 fl_X7_18 rfl (fun h9 => by cases h9) (shT (by omega) ha) (Or.inl rfl) ?_
  refine X.aload_n (pc := 20) (i := 0) 0 dX7_init_20 rfl rfl ?_
  refine X.iconst (pc := 21) dX7_init_21 ⟨by decide, by decide⟩ ?_
  refine X.putI (pc := 22) dX7_init_22 fl_X7_22 rfl (fun h9 => by cases h9) (shT (by omega) ha) (Or.inl rfl) ?_
  refine X.aload_n (pc := 25) (i := 0) 0 dX7_init_25 rfl rfl ?_
  refine X.iconst (pc := 26) dX7_init_26 ⟨by decide, by decide⟩ ?_
  refine X.putI (pc := 27) dX7_init_27 fl_X7_25 rfl (fun h9 => by cases h9) (shT (by omega) ha) (Or.inl rfl) ?_
  refine X.aload_n (pc := 30) (i := 0) 0 dX7_init_30 rfl rfl ?_
  refine X.bipush (pc := 31) (y := -9) dX7_init_31 rfl ⟨by decide, by decide⟩ ?_
  refine X.putI (pc := 33) dX7_init_33 fl_X7_28 rfl (fun h9 => by cases h9) (shT (by omega) ha) (Or.inl rfl) ?_
  refine X.aload_n (pc := 36) (i := 0) 0 dX7_init_36 rfl rfl ?_
  refine X.iconst (pc := 37) dX7_init_37 ⟨by decide, by decide⟩ ?_
  refine X.putI (pc := 38) dX7_init_38 fl_X7_31 rfl (fun h9 => by cases h9) (shT (by omega) ha) (Or.inl rfl) ?_
  refine X.aload_n (pc := 41) (i := 0) 0 dX7_init_41 rfl rfl ?_
  refine X.bipush (pc := 42) (y := 20) dX7_init_42 rfl ⟨by decide, by decide⟩ ?_
  refine X.putI (pc := 44) dX7_init_44 fl_X7_34 rfl (fun h9 => by cases h9) (shT (by omega) ha) (Or.inl rfl) ?_
  refine X.aload_n (pc := 47) (i := 0) 0 dX7_init_47 rfl rfl ?_
  refine X.iconst (pc := 48) dX7_init_48 ⟨by decide, by decide⟩ ?_
  refine X.putI (pc := 49) dX7_init_49 fl_X7_37 rfl (fun h9 => by cases h9) (shT (by omega) ha) (Or.inl rfl) ?_
  refine X.aload_n (pc := 52) (i := 0) 0 dX7_init_52 rfl rfl ?_
  refine X.bipush (pc := 53) (y := 20) dX7_init_53 rfl ⟨by decide, by decide⟩ ?_
  refine X.putI (pc := 55) dX7_init_55 fl_X7_40 rfl (fun h9 => by cases h9) (shT (by omega) ha) (Or.inl rfl) ?_
  exact X.vret (pc := 58) dX7_init_58 rfl (Nat.le_of_ble_eq_true rfl) (Nat.le_of_ble_eq_true rfl) h

theorem s_X3_A {ν : Nat → Nat → Option Nat} {μ : Nat → Nat → Int} {Q : xQ} (hF : Fr 2 ν μ) (h : X mX3_init 31 [(1, vI 0), (0, vR 1)] [] (SH.take 7) ((upr (upr (upr (upr (upr ν 1 0 (some 2)) 3 0 (some 4)) 3 1 (some 5)) 3 2 (some 6)) 1 1 (some 3))) ((up (up (up (up μ 3 3 0) 3 4 0) 3 5 0) 1 2 0)) 5 64 Q) : X mX3_init 0 [(0, vR 1)] [] (SH.take 2) ν μ 0 0 Q := by
  refine X.aload_n (pc := 0) (i := 0) 0 dX3_init_0 rfl rfl ?_
  refine X.objInit (pc := 1) dX3_init_1 lk_X3_3 w_oi w_oc (by decide) (Nat.le_of_ble_eq_true rfl) ?_
  refine X.aload_n (pc := 4) (i := 0) 0 dX3_init_4 rfl rfl ?_
  refine X.bipush (pc := 5) (y := 40) dX3_init_5 rfl ⟨by decide, by decide⟩ ?_
  refine X.topI (y := ((40 : Nat) : Int)) rfl ?_
  refine T.newq (pc := 7) (N := 40) (K := 2) (K' := 3) (k' := 1) (n' := 40) dX3_init_7 ck_X3_9 (by decide) rfl hF rfl rfl rfl (Nat.le_of_ble_eq_true rfl) (Nat.le_of_ble_eq_true rfl) ?_
  refine X.putR (pc := 10) dX3_init_10 fl_X3_11 rfl (fun _ => ⟨rfl, rfl⟩) (shT (by decide) rfl) ?_
  refine X.aload_n (pc := 13) (i := 0) 0 dX3_init_13 rfl rfl ?_
  refine T.new (pc := 14) (ci := 6) (K := 3) (K' := 4) (k' := 2) (n' := 46) dX3_init_14 nl_X3_17 rfl (Fr_r (by omega) (Fr_m (K' := 3) (by omega) hF)) rfl rfl rfl (Nat.le_of_ble_eq_true rfl) (Nat.le_of_ble_eq_true rfl) ?_
  refine X.dup (pc := 17) dX3_init_17 rfl ?_
  refine X.callIN (pc := 18) (vs := []) (st := [vR 3, vR 1]) dX3_init_18 rfl okM_X6_init rfl nk_X3_19 inst_X6_init rfl rfl ⟨⟨by decide, by decide⟩, ⟨by decide, by decide⟩, Nat.le_of_ble_eq_true rfl⟩ (Nat.le_of_ble_eq_true rfl) ?_
  refine c_X6_init (a := 3) (K := 4) rfl (by omega) rfl rfl rfl (Fr_m (K' := 4) (by omega) (Fr_r (by omega) (Fr_m (K' := 3) (by omega) hF))) ?_
  refine X.nrm (pc' := 21) (ls' := [(0, vR 1)]) (st' := [vR 3, vR 1]) (k' := 5) (n' := 64) rfl rfl rfl rfl rfl ?_
  refine X.putR (pc := 21) dX3_init_21 fl_X3_20 rfl (fun _ => ⟨rfl, rfl⟩) (shT (by decide) rfl) ?_
  refine X.aload_n (pc := 24) (i := 0) 0 dX3_init_24 rfl rfl ?_
  refine X.iconst (pc := 25) dX3_init_25 ⟨by decide, by decide⟩ ?_
  refine X.putI (pc := 26) dX3_init_26 fl_X3_24 rfl (fun h9 => by cases h9) (shT (by decide) rfl) (Or.inl rfl) ?_
  refine X.iconst (pc := 29) dX3_init_29 ⟨by decide, by decide⟩ ?_
  refine X.istore_n (pc := 30) (i := 1) (ls' := [(1, vI 0), (0, vR 1)]) dX3_init_30 rfl (by decide) rfl ?_
  exact h

theorem s_X3_B {ν : Nat → Nat → Option Nat} {μ : Nat → Nat → Int} {Q : xQ} {r : Nat} (hr : r < 40) (hF : Fr (7 + 5 * r) ν μ) (h10 : ν 1 0 = some 2) (h : X mX3_init 31 [(0, vR 1), (1, vI ((r + 1 : Nat) : Int))] [] (SH.take (7 + 5 * r + 5)) (upr (upr (upr (upr (upr ν (7 + 5 * r + 1) 0 (some (7 + 5 * r + 2))) (7 + 5 * r + 1) 1 (some (7 + 5 * r + 3))) (7 + 5 * r + 1) 2 (some (7 + 5 * r + 4))) (7 + 5 * r) 0 (some (7 + 5 * r + 1))) 2 r (some (7 + 5 * r))) (up (up (up (up (up (up (up (up (up (up (up μ (7 + 5 * r + 1) 3 0) (7 + 5 * r + 1) 4 0) (7 + 5 * r + 1) 5 0) (7 + 5 * r) 1 0) (7 + 5 * r) 2 0) (7 + 5 * r) 3 0) (7 + 5 * r) 4 (-9)) (7 + 5 * r) 5 1) (7 + 5 * r) 6 20) (7 + 5 * r) 7 1) (7 + 5 * r) 8 20) (5 + 5 * r + 5) (64 + 33 * r + 33) Q) : X mX3_init 37 [(0, vR 1), (1, vI (r : Nat))] [] (SH.take (7 + 5 * r)) ν μ (5 + 5 * r) (64 + 33 * r) Q := by
  obtain ⟨g0, g1, g2, g3, g4⟩ := SH_rule r hr
  refine X.aload_n (pc := 37) (i := 0) 0 dX3_init_37 rfl rfl ?_
  refine X.getR (pc := 38) (b := 2) dX3_init_38 fl_X3_11 rfl (shT (by omega) rfl) h10 ?_
  refine X.iload_n (pc := 41) (i := 1) 1 dX3_init_41 rfl rfl ?_
  refine T.new (pc := 42) (ci := 7) (K := 7 + 5 * r) (K' := 7 + 5 * r + 1) (k' := 5 + 5 * r + 1) (n' := 64 + 33 * r + 9) dX3_init_42 nl_X3_9 g0 hF rfl rfl rfl (show 5 + 5 * r + 1 ≤ 205 by omega) (show 64 + 33 * r + 9 ≤ 1384 by omega) ?_
  refine X.dup (pc := 45) dX3_init_45 rfl ?_
  refine X.callIN (pc := 46) (vs := []) (st := [vR (7 + 5 * r), vI (r : Nat), vR 2]) dX3_init_46 rfl okM_X7_init rfl nk_X3_28 inst_X7_init rfl rfl ⟨⟨by decide, by decide⟩, ⟨show 5 + 5 * r + 1 + 4 ≤ 205 by omega, show 64 + 33 * r + 9 + 24 ≤ 1384 by omega⟩, Nat.le_of_ble_eq_true rfl⟩ (Nat.le_of_ble_eq_true rfl) ?_
  refine c_X7_init (a := 7 + 5 * r) (K := 7 + 5 * r + 1) g0 (by omega) g1 g2 g3 g4 (Fr_m (by omega) hF) ?_
  refine X.nrm (pc' := 49) (ls' := [(0, vR 1), (1, vI (r : Nat))]) (st' := [vR (7 + 5 * r), vI (r : Nat), vR 2]) (k' := 5 + 5 * r + 5) (n' := 64 + 33 * r + 33) rfl rfl rfl rfl rfl ?_
  refine X.aastore (pc := 49) dX3_init_49 (shT (by omega) rfl) (shT (by omega) g0) (i01 hr) ?_
  rw [Int.toNat_natCast]
  refine X.iinc (pc := 50) (i := 1) (ls' := [(1, vI (w32 ((r : Int) + 1))), (0, vR 1)]) 1 dX3_init_50 rfl (by decide) rfl ?_
  refine X.goto (pc := 53) (tgt := 31) dX3_init_53 (by decide) ?_
  rw [wi1 (by omega)]
  exact X.pick [1, 0] rfl h
