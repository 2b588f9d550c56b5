/-! constructors: the grammar whole, the walk, the charts -/
def ptG (ν : Nat → Nat → Option Nat) : Prop := (ν 1 0 = some 2 ∧ ν 1 1 = some 3) ∧ ν 3 0 = some 4 ∧ ν 3 1 = some 5 ∧ ν 3 2 = some 6
def ptR (ν : Nat → Nat → Option Nat) (n : Nat) : Prop := ∀ r, r < n → ν 2 r = some (7 + 5 * r) ∧ ν (7 + 5 * r) 0 = some (7 + 5 * r + 1) ∧ ν (7 + 5 * r + 1) 0 = some (7 + 5 * r + 1 + 1) ∧ ν (7 + 5 * r + 1) 1 = some (7 + 5 * r + 1 + 2) ∧ ν (7 + 5 * r + 1) 2 = some (7 + 5 * r + 1 + 3)
def zG (μ : Nat → Nat → Int) : Prop := μ 1 2 = 0 ∧ μ 3 3 = 0 ∧ μ 3 4 = 0 ∧ μ 3 5 = 0
theorem c_X3_init {ν : Nat → Nat → Option Nat} {μ : Nat → Nat → Int} {Q : xQ} (hF : Fr 2 ν μ) (k : ∀ ν' μ', Fr 207 ν' μ' → ptG ν' → ptR ν' 40 → zG μ' → ν' 0 = ν 0 → μ' 0 = μ 0 → Q none (SH.take 207) ν' μ') : X mX3_init 0 [(0, vR 1)] [] (SH.take 2) ν μ 0 0 Q := by
  refine s_X3_A hF ?_
  refine X.pick [1, 0] rfl ?_
  have key := loop_up 40 (fun (r : Nat) (v : (Nat → Nat → Option Nat) × (Nat → Nat → Int)) => Fr (7 + 5 * r) v.1 v.2 ∧ ptG v.1 ∧ ptR v.1 r ∧ zG v.2 ∧ v.1 0 = ν 0 ∧ v.2 0 = μ 0) (fun r v => X mX3_init 31 [(0, vR 1), (1, vI (r : Nat))] [] (SH.take (7 + 5 * r)) v.1 v.2 (5 + 5 * r) (64 + 33 * r) Q) ?_ ?_ 0 (upr (upr (upr (upr (upr ν 1 0 (some 2)) 3 0 (some 4)) 3 1 (some 5)) 3 2 (some 6)) 1 1 (some 3), up (up (up (up μ 3 3 0) 3 4 0) 3 5 0) 1 2 0) (Nat.zero_le _) ⟨?_, ?_, fun r hr => absurd hr (Nat.not_lt_zero r), ?_, ?_, ?_⟩
  · exact key
  · rintro ⟨ν1, μ1⟩ ⟨h1, h2, h3, h4, h5, h6⟩
    refine X.iload_n (pc := 31) (i := 1) 1 dX3_init_31 rfl rfl ?_
    refine X.bipush (pc := 32) (y := 40) dX3_init_32 rfl ⟨by decide, by decide⟩ ?_
    refine X.icmp_ge (pc := 34) 56 dX3_init_34 (by decide) ⟨fun _ => ?_, fun q => absurd q (by omega)⟩
    exact X.vret (pc := 56) dX3_init_56 rfl (Nat.le_of_ble_eq_true rfl) (Nat.le_of_ble_eq_true rfl) (k ν1 μ1 h1 h2 h3 h4 h5 h6)
  · rintro r ⟨ν1, μ1⟩ hr ⟨h1, h2, h3, h4, h5, h6⟩ ih
    refine X.iload_n (pc := 31) (i := 1) 1 dX3_init_31 rfl rfl ?_
    refine X.bipush (pc := 32) (y := 40) dX3_init_32 rfl ⟨by decide, by decide⟩ ?_
    refine X.icmp_ge (pc := 34) 56 dX3_init_34 (by decide) ⟨fun q => absurd q (by omega), fun _ => ?_⟩
    refine s_X3_B hr h1 h2.1.1 ?_
    have := ih ((upr (upr (upr (upr (upr ν1 (7 + 5 * r + 1) 0 (some (7 + 5 * r + 2))) (7 + 5 * r + 1) 1 (some (7 + 5 * r + 3))) (7 + 5 * r + 1) 2 (some (7 + 5 * r + 4))) (7 + 5 * r) 0 (some (7 + 5 * r + 1))) 2 r (some (7 + 5 * r))), (up (up (up (up (up (up (up (up (up (up (up μ1 (7 + 5 * r + 1) 3 0) (7 + 5 * r + 1) 4 0) (7 + 5 * r + 1) 5 0) (7 + 5 * r) 1 0) (7 + 5 * r) 2 0) (7 + 5 * r) 3 0) (7 + 5 * r) 4 (-9)) (7 + 5 * r) 5 1) (7 + 5 * r) 6 20) (7 + 5 * r) 7 1) (7 + 5 * r) 8 20)) ⟨?_, ?_, fun r' hr' => ?_, ?_, ?_, ?_⟩
    · exact this
    · exact (show Fr (7 + 5 * (r + 1)) _ _ from (Fr_r (by omega) (Fr_i (by omega) (Fr_i (by omega) (Fr_i (by omega) (Fr_i (by omega) (Fr_i (by omega) (Fr_i (by omega) (Fr_i (by omega) (Fr_i (by omega) (Fr_r (by omega) (Fr_i (by omega) (Fr_i (by omega) (Fr_i (by omega) (Fr_r (by omega) (Fr_r (by omega) (Fr_r (by omega) (Fr_m (by omega) h1))))))))))))))))))
    · obtain ⟨⟨a1, a2⟩, a3, a4, a5⟩ := h2
      unfold ptG
      simp (disch := omega) only [upr_a']
      exact ⟨⟨a1, a2⟩, a3, a4, a5⟩
    · by_cases e : r' = r
      · subst e
        simp (disch := omega) only [upr_s, upr_a', upr_k']
        exact ⟨trivial, trivial, trivial, trivial, trivial⟩
      · obtain ⟨a1, a2, a3, a4, a5⟩ := h3 r' (by omega)
        simp (disch := omega) only [upr_a', upr_k']
        exact ⟨a1, a2, a3, a4, a5⟩
    · unfold zG at *
      simp (disch := omega) only [up_a']
      exact h4
    · simp (disch := omega) only [upr_o']
      exact h5
    · simp (disch := omega) only [up_o']
      exact h6
  · exact Fr_i (by decide) (Fr_i (by decide) (Fr_i (by decide) (Fr_i (by decide) (Fr_r (by decide) (Fr_r (by decide) (Fr_r (by decide) (Fr_r (by decide) (Fr_r (by decide) (Fr_m (by decide) hF)))))))))
  · unfold ptG
    simp (disch := decide) only [upr_s, upr_a', upr_k']
    exact ⟨⟨trivial, trivial⟩, trivial, trivial, trivial⟩
  · unfold zG
    simp (disch := decide) only [up_s, up_a', up_k']
    exact ⟨trivial, trivial, trivial, trivial⟩
  · simp (disch := decide) only [upr_o']
  · simp (disch := decide) only [up_o']

theorem c_X8_init {ν : Nat → Nat → Option Nat} {μ : Nat → Nat → Int} {Q : xQ} (hF : Fr 250 ν μ) (h : Q none (SH.take 259) ((upr (upr (upr (upr (mnu ν 250 7) 249 2 (some 250)) 249 3 (some 258)) 249 0 (some 1)) 249 1 (some 207))) ((up (up (up (up (up (up (up (up μ 249 4 0) 249 5 0) 249 6 0) 249 7 0) 249 8 0) 249 9 0) 249 10 0) 249 11 0))) : X mX8_init 0 [(0, vR 249), (1, vR 1), (2, vR 207)] [] (SH.take 250) ν μ 0 0 Q := by
  refine X.aload_n (pc := 0) (i := 0) 0 dX8_init_0 rfl rfl ?_
  refine X.objInit (pc := 1) dX8_init_1 lk_X8_3 w_oi w_oc (by decide) (Nat.le_of_ble_eq_true rfl) ?_
  refine X.aload_n (pc := 4) (i := 0) 0 dX8_init_4 rfl rfl ?_
  refine X.bipush (pc := 5) (y := 7) dX8_init_5 rfl ⟨by decide, by decide⟩ ?_
  refine X.sipush (pc := 7) (y := 400) dX8_init_7 rfl ⟨by decide, by decide⟩ ?_
  refine T.mna (pc := 10) (N := 7) (N2 := 400) (K := 250) (K' := 258) (k' := 8) (n' := 2807) dX8_init_10 ck_X8_9 ac_int (by decide) (by decide) rfl (by decide +kernel) hF rfl rfl (Nat.le_of_ble_eq_true rfl) (Nat.le_of_ble_eq_true rfl) ?_
  refine X.putR (pc := 14) dX8_init_14 fl_X8_11 rfl (fun _ => ⟨rfl, rfl⟩) (shT (by decide) rfl) ?_
  refine X.aload_n (pc := 17) (i := 0) 0 dX8_init_17 rfl rfl ?_
  refine X.bipush (pc := 18) (y := 40) dX8_init_18 rfl ⟨by decide, by decide⟩ ?_
  refine X.topI (y := ((40 : Nat) : Int)) rfl ?_
  refine T.newa (pc := 20) (t := 0) (N := 40) (K := 258) (K' := 259) (k' := 9) (n' := 2847) dX8_init_20 (by decide) rfl ac_int (by decide) rfl (Fr_r (by omega) (Fr_m (K' := 258) (by omega) (Fr_n (N := 7) hF))) rfl rfl rfl (Nat.le_of_ble_eq_true rfl) (Nat.le_of_ble_eq_true rfl) ?_
  refine X.putR (pc := 22) dX8_init_22 fl_X8_16 rfl (fun _ => ⟨rfl, rfl⟩) (shT (by decide) rfl) ?_
  refine X.aload_n (pc := 25) (i := 0) 0 dX8_init_25 rfl rfl ?_
  refine X.iconst (pc := 26) dX8_init_26 ⟨by decide, by decide⟩ ?_
  refine X.putI (pc := 27) dX8_init_27 fl_X8_20 rfl (fun h9 => by cases h9) (shT (by decide) rfl) (Or.inl rfl) ?_
  refine X.aload_n (pc := 30) (i := 0) 0 dX8_init_30 rfl rfl ?_
  refine X.iconst (pc := 31) dX8_init_31 ⟨by decide, by decide⟩ ?_
  refine X.putI (pc := 32) dX8_init_32 fl_X8_24 rfl (fun h9 => by cases h9) (shT (by decide) rfl) (Or.inl rfl) ?_
  refine X.aload_n (pc := 35) (i := 0) 0 dX8_init_35 rfl rfl ?_
  refine X.iconst (pc := 36) dX8_init_36 ⟨by decide, by decide⟩ ?_
  refine X.putI (pc := 37) dX8_init_37 fl_X8_27 rfl (fun h9 => by cases h9) (shT (by decide) rfl) (Or.inl rfl) ?_
  refine X.aload_n (pc := 40) (i := 0) 0 dX8_init_40 rfl rfl ?_
  refine X.iconst (pc := 41) dX8_init_41 ⟨by decide, by decide⟩ ?_
  refine X.putI (pc := 42) dX8_init_42 fl_X8_30 rfl (fun h9 => by cases h9) (shT (by decide) rfl) (Or.inl rfl) ?_
  refine X.aload_n (pc := 45) (i := 0) 0 dX8_init_45 rfl rfl ?_
  refine X.iconst (pc := 46) dX8_init_46 ⟨by decide, by decide⟩ ?_
  refine X.putI (pc := 47) dX8_init_47 fl_X8_33 rfl (fun h9 => by cases h9) (shT (by decide) rfl) (Or.inl rfl) ?_
  refine X.aload_n (pc := 50) (i := 0) 0 dX8_init_50 rfl rfl ?_
  refine X.iconst (pc := 51) dX8_init_51 ⟨by decide, by decide⟩ ?_
  refine X.putI (pc := 52) dX8_init_52 fl_X8_36 rfl (fun h9 => by cases h9) (shT (by decide) rfl) (Or.inl rfl) ?_
  refine X.aload_n (pc := 55) (i := 0) 0 dX8_init_55 rfl rfl ?_
  refine X.iconst (pc := 56) dX8_init_56 ⟨by decide, by decide⟩ ?_
  refine X.putI (pc := 57) dX8_init_57 fl_X8_39 rfl (fun h9 => by cases h9) (shT (by decide) rfl) (Or.inl rfl) ?_
  refine X.aload_n (pc := 60) (i := 0) 0 dX8_init_60 rfl rfl ?_
  refine X.iconst (pc := 61) dX8_init_61 ⟨by decide, by decide⟩ ?_
  refine X.putI (pc := 62) dX8_init_62 fl_X8_42 rfl (fun h9 => by cases h9) (shT (by decide) rfl) (Or.inl rfl) ?_
  refine X.aload_n (pc := 65) (i := 0) 0 dX8_init_65 rfl rfl ?_
  refine X.aload_n (pc := 66) (i := 1) 1 dX8_init_66 rfl rfl ?_
  refine X.putR (pc := 67) dX8_init_67 fl_X8_45 rfl (fun _ => ⟨rfl, rfl⟩) (shT (by decide) rfl) ?_
  refine X.aload_n (pc := 70) (i := 0) 0 dX8_init_70 rfl rfl ?_
  refine X.aload_n (pc := 71) (i := 2) 2 dX8_init_71 rfl rfl ?_
  refine X.putR (pc := 72) dX8_init_72 fl_X8_49 rfl (fun _ => ⟨rfl, rfl⟩) (shT (by decide) rfl) ?_
  exact X.vret (pc := 75) dX8_init_75 rfl (Nat.le_of_ble_eq_true rfl) (Nat.le_of_ble_eq_true rfl) h
