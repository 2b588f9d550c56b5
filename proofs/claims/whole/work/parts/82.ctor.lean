/-! constructors: cells come in the order of SH -/
theorem upr_a' {ν : Nat → Nat → Option Nat} {a k b : Nat} {v : Option Nat} (h : b ≠ a) (j : Nat) : upr ν a k v b j = ν b j := upr_a h j
theorem upr_k' {ν : Nat → Nat → Option Nat} {a k j : Nat} {v : Option Nat} (h : j ≠ k) (b : Nat) : upr ν a k v b j = ν b j := upr_k h b
theorem upr_o' {ν : Nat → Nat → Option Nat} {a k b : Nat} {v : Option Nat} (h : b ≠ a) : upr ν a k v b = ν b := upr_o b h
theorem shT {K a : Nat} {s : Nat × Nat} (h : a < K) (hs : SH[a]? = some s) : (SH.take K)[a]? = some s := by
  rw [List.getElem?_take, if_pos h]; exact hs
theorem sh_lt {K : Nat} {s : Nat × Nat} (hs : SH[K]? = some s) : K < SH.length := (List.getElem?_eq_some_iff.mp hs).1
theorem shT_len {K : Nat} {s : Nat × Nat} (hs : SH[K]? = some s) : (SH.take K).length = K := by
  have := sh_lt hs
  rw [List.length_take]; omega
theorem shT_s {K : Nat} {s : Nat × Nat} (hs : SH[K]? = some s) : SH.take K ++ [s] = SH.take (K + 1) := by
  rw [List.take_add_one, hs]; rfl
/-- nothing is written from cell K on -/
def Fr (K : Nat) (ν : Nat → Nat → Option Nat) (μ : Nat → Nat → Int) : Prop := ∀ b, K ≤ b → ν b = (fun _ => none) ∧ μ b = fun _ => 0
section FR
variable {K K' a k : Nat} {ν : Nat → Nat → Option Nat} {μ : Nat → Nat → Int}
theorem Fr_m (h : K ≤ K') (hF : Fr K ν μ) : Fr K' ν μ := fun b hb => hF b (by omega)
theorem Fr_r {v : Option Nat} (h : a < K) (hF : Fr K ν μ) : Fr K (upr ν a k v) μ := fun b hb => ⟨by rw [upr_o' (by omega)]; exact (hF b hb).1, (hF b hb).2⟩
theorem Fr_i {v : Int} (h : a < K) (hF : Fr K ν μ) : Fr K ν (up μ a k v) := fun b hb => ⟨(hF b hb).1, by rw [up_o' (by omega)]; exact (hF b hb).2⟩
theorem Fr_n {N : Nat} (hF : Fr K ν μ) : Fr (K + (1 + N)) (mnu ν K N) μ := fun b hb => ⟨funext fun j => by
  unfold mnu
  rw [if_neg (by omega), if_pos (by omega)], (hF b (by omega)).2⟩
theorem Fr_zr (hF : Fr K ν μ) : zrr ν K = ν ∧ zr μ K = μ := by
  refine ⟨?_, ?_⟩
  · funext b j
    unfold zrr
    by_cases q : b = K
    · rw [if_pos q, q, (hF K (Nat.le_refl _)).1]
    · rw [if_neg q]
  · funext b j
    unfold zr
    by_cases q : b = K
    · rw [if_pos q, q, (hF K (Nat.le_refl _)).2]
    · rw [if_neg q]
theorem Fr_mm (hF : Fr K ν μ) : mmu μ K = μ := by
  funext b j
  unfold mmu
  by_cases q : K ≤ b
  · rw [if_pos q, (hF b q).2]
  · rw [if_neg q]
end FR
section TR
variable {M : xM} {pc : Nat} {ls : List (Nat × xV)} {st : List xV} {ν : Nat → Nat → Option Nat} {μ : Nat → Nat → Int} {k n K K' k' n' : Nat} {Q : xQ}
theorem T.new {idx ci : Nat} (d : decode M.2.1 pc = .ok (.new idx, 3)) (hn : xNL M.1.cls idx ci) (hS : SH[K]? = some (6, ci)) (hF : Fr K ν μ) (hK : K' = K + 1) (hk : k' = k + 1) (hnn : n' = n + xN ci) (hc : k' ≤ M.2.2.2.2.cells) (hsl : n' ≤ M.2.2.2.2.slots) (H : X M (pc + 3) ls (vR K :: st) (SH.take K') ν μ k' n' Q) : X M pc ls st (SH.take K) ν μ k n Q := by
  subst hK; subst hk; subst hnn
  obtain ⟨e1, e2⟩ := Fr_zr hF
  refine X.new d hn hc hsl ?_
  rw [shT_len hS, shT_s hS, e1, e2]
  exact H
theorem T.newa {at' : ArrayType} {t N : Nat} (d : decode M.2.1 pc = .ok (.newarray at', 2)) (ht : t ≤ 3) (hat : newarray.typeOf at' = xkt t) (hw : Cond.arrayClass (xkt t) ∈ xT) (hN : N ≤ 60000) (hS : SH[K]? = some (t, N)) (hF : Fr K ν μ) (hK : K' = K + 1) (hk : k' = k + 1) (hnn : n' = n + N) (hc : k' ≤ M.2.2.2.2.cells) (hsl : n' ≤ M.2.2.2.2.slots) (H : X M (pc + 2) ls (vR K :: st) (SH.take K') ν μ k' n' Q) : X M pc ls (vI N :: st) (SH.take K) ν μ k n Q := by
  subst hK; subst hk; subst hnn
  obtain ⟨e1, e2⟩ := Fr_zr hF
  refine X.newa d ht hat hw hN hc hsl ?_
  rw [shT_len hS, shT_s hS, e1, e2]
  exact H
theorem T.newq {idx N : Nat} (d : decode M.2.1 pc = .ok (.anewarray idx, 3)) (hw : Cond.classLink M.1.cls idx RX7 ∈ xT) (hN : N ≤ 60000) (hS : SH[K]? = some (4, N)) (hF : Fr K ν μ) (hK : K' = K + 1) (hk : k' = k + 1) (hnn : n' = n + N) (hc : k' ≤ M.2.2.2.2.cells) (hsl : n' ≤ M.2.2.2.2.slots) (H : X M (pc + 3) ls (vR K :: st) (SH.take K') ν μ k' n' Q) : X M pc ls (vI N :: st) (SH.take K) ν μ k n Q := by
  subst hK; subst hk; subst hnn
  obtain ⟨e1, e2⟩ := Fr_zr hF
  refine X.newq d hw hN hc hsl ?_
  rw [shT_len hS, shT_s hS, e1, e2]
  exact H
theorem T.mna {idx N N2 : Nat} (d : decode M.2.1 pc = .ok (.multianewarray idx 2, 4)) (hw : Cond.classLink M.1.cls idx "[[I" ∈ xT) (hw2 : Cond.arrayClass .int ∈ xT) (hN : N ≤ 60000) (hN2 : N2 ≤ 60000) (hS : SH[K]? = some (5, N)) (hSS : SH.take K ++ (5, N) :: List.replicate N (0, N2) = SH.take K') (hF : Fr K ν μ) (hk : k' = k + 1 + N) (hnn : n' = n + N + N * N2) (hc : k' ≤ M.2.2.2.2.cells) (hsl : n' ≤ M.2.2.2.2.slots) (H : X M (pc + 4) ls (vR K :: st) (SH.take K') (mnu ν K N) μ k' n' Q) : X M pc ls (vI N2 :: vI N :: st) (SH.take K) ν μ k n Q := by
  subst hk; subst hnn
  refine X.mna d hw hw2 hN hN2 (by omega) (by omega) ?_
  rw [shT_len hS, hSS, Fr_mm hF]
  exact H
end TR

theorem c_X6_init {ν : Nat → Nat → Option Nat} {μ : Nat → Nat → Int} {Q : xQ} {a K : Nat} (ha : SH[a]? = some (6, 6)) (haK : a < K) (h0 : SH[K]? = some (0, 6)) (h1 : SH[K + 1]? = some (0, 6)) (h2 : SH[K + 2]? = some (0, 6)) (hF : Fr K ν μ) (h : Q none (SH.take (K + 3)) ((upr (upr (upr ν a 0 (some K)) a 1 (some (K + 1))) a 2 (some (K + 2)))) ((up (up (up μ a 3 0) a 4 0) a 5 0))) : X mX6_init 0 [(0, vR a)] [] (SH.take K) ν μ 0 0 Q := by
  refine X.aload_n (pc := 0) (i := 0) 0 dX6_init_0 rfl rfl ?_
  refine X.objInit (pc := 1) dX6_init_1 lk_X6_3 w_oi w_oc (by decide) (Nat.le_of_ble_eq_true rfl) ?_
  refine X.aload_n (pc := 4) (i := 0) 0 dX6_init_4 rfl rfl ?_
  refine X.bipush (pc := 5) (y := 6) dX6_init_5 rfl ⟨by decide, by decide⟩ ?_
  refine X.topI (y := ((6 : Nat) : Int)) rfl ?_
  refine T.newa (pc := 7) (t := 0) (N := 6) (K := K) (K' := K + 1) (k' := 1) (n' := 6) dX6_init_7 (by decide) rfl ac_int (by decide) h0 hF rfl rfl rfl (Nat.le_of_ble_eq_true rfl) (Nat.le_of_ble_eq_true rfl) ?_
  refine X.putR (pc := 9) dX6_init_9 fl_X6_9 rfl (fun _ => ⟨rfl, rfl⟩) (shT (by omega) ha) ?_
  refine X.aload_n (pc := 12) (i := 0) 0 dX6_init_12 rfl rfl ?_
  refine X.bipush (pc := 13) (y := 6) dX6_init_13 rfl ⟨by decide, by decide⟩ ?_
  refine X.topI (y := ((6 : Nat) : Int)) rfl ?_
  refine T.newa (pc := 15) (t := 0) (N := 6) (K := K + 1) (K' := K + 2) (k' := 2) (n' := 12) dX6_init_15 (by decide) rfl ac_int (by decide) h1 (Fr_r (by omega) (Fr_m (K' := K + 1) (by omega) hF)) rfl rfl rfl (Nat.le_of_ble_eq_true rfl) (Nat.le_of_ble_eq_true rfl) ?_
  refine X.putR (pc := 17) dX6_init_17 fl_X6_15 rfl (fun _ => ⟨rfl, rfl⟩) (shT (by omega) ha) ?_
  refine X.aload_n (pc := 20) (i := 0) 0 dX6_init_20 rfl rfl ?_
  refine X.bipush (pc := 21) (y := 6) dX6_init_21 rfl ⟨by decide, by decide⟩ ?_
  refine X.topI (y := ((6 : Nat) : Int)) rfl ?_
  refine T.newa (pc := 23) (t := 0) (N := 6) (K := K + 2) (K' := K + 3) (k' := 3) (n' := 18) dX6_init_23 (by decide) rfl ac_int (by decide) h2 (Fr_r (by omega) (Fr_m (K' := K + 2) (by omega) (Fr_r (by omega) (Fr_m (K' := K + 1) (by omega) hF)))) rfl rfl rfl (Nat.le_of_ble_eq_true rfl) (Nat.le_of_ble_eq_true rfl) ?_
  refine X.putR (pc := 25) dX6_init_25 fl_X6_18 rfl (fun _ => ⟨rfl, rfl⟩) (shT (by omega) ha) ?_
  refine X.aload_n (pc := 28) (i := 0) 0 dX6_init_28 rfl rfl ?_
  refine X.iconst (pc := 29) dX6_init_29 ⟨by decide, by decide⟩ ?_
  refine X.putI (pc := 30) dX6_init_30 fl_X6_21 rfl (fun h9 => by cases h9) (shT (by omega) ha) (Or.inl rfl) ?_
  refine X.aload_n (pc := 33) (i := 0) 0 dX6_init_33 rfl rfl ?_
  refine X.iconst (pc := 34) dX6_init_34 ⟨by decide, by decide⟩ ?_
  refine X.putI (pc := 35) dX6_init_35 fl_X6_25 rfl (fun h9 => by cases h9) (shT (by omega) ha) (Or.inl rfl) ?_
  refine X.aload_n (pc := 38) (i := 0) 0 dX6_init_38 rfl rfl ?_
  refine X.iconst (pc := 39) dX6_init_39 ⟨by decide, by decide⟩ ?_
  refine X.putI (pc := 40) dX6_init_40 fl_X6_28 rfl (fun h9 => by cases h9) (shT (by omega) ha) (Or.inl rfl) ?_
  exact X.vret (pc := 43) dX6_init_43 rfl (Nat.le_of_ble_eq_true rfl) (Nat.le_of_ble_eq_true rfl) h

theorem c_X5_init {ν : Nat → Nat → Option Nat} {μ : Nat → Nat → Int} {Q : xQ} {a K : Nat} (ha : SH[a]? = some (6, 5)) (haK : a < K) (h0 : SH[K]? = some (0, 20)) (h1 : SH[K + 1]? = some (0, 20)) (h2 : SH[K + 2]? = some (0, 20)) (hF : Fr K ν μ) (h : Q none (SH.take (K + 3)) ((upr (upr (upr ν a 0 (some K)) a 1 (some (K + 1))) a 2 (some (K + 2)))) ((up μ a 3 0))) : X mX5_init 0 [(0, vR a)] [] (SH.take K) ν μ 0 0 Q := by
  refine X.aload_n (pc := 0) (i := 0) 0 dX5_init_0 rfl rfl ?_
  refine X.objInit (pc := 1) dX5_init_1 lk_X5_3 w_oi w_oc (by decide) (Nat.le_of_ble_eq_true rfl) ?_
  refine X.aload_n (pc := 4) (i := 0) 0 dX5_init_4 rfl rfl ?_
  refine X.bipush (pc := 5) (y := 20) dX5_init_5 rfl ⟨by decide, by decide⟩ ?_
  refine X.topI (y := ((20 : Nat) : Int)) rfl ?_
  refine T.newa (pc := 7) (t := 0) (N := 20) (K := K) (K' := K + 1) (k' := 1) (n' := 20) dX5_init_7 (by decide) rfl ac_int (by decide) h0 hF rfl rfl rfl (Nat.le_of_ble_eq_true rfl) (Nat.le_of_ble_eq_true rfl) ?_
  refine X.putR (pc := 9) dX5_init_9 fl_X5_9 rfl (fun _ => ⟨rfl, rfl⟩) (shT (by omega) ha) ?_
  refine X.aload_n (pc := 12) (i := 0) 0 dX5_init_12 rfl rfl ?_
  refine X.bipush (pc := 13) (y := 20) dX5_init_13 rfl ⟨by decide, by decide⟩ ?_
  refine X.topI (y := ((20 : Nat) : Int)) rfl ?_
  refine T.newa (pc := 15) (t := 0) (N := 20) (K := K + 1) (K' := K + 2) (k' := 2) (n' := 40) dX5_init_15 (by decide) rfl ac_int (by decide) h1 (Fr_r (by omega) (Fr_m (K' := K + 1) (by omega) hF)) rfl rfl rfl (Nat.le_of_ble_eq_true rfl) (Nat.le_of_ble_eq_true rfl) ?_
  refine X.putR (pc := 17) dX5_init_17 fl_X5_15 rfl (fun _ => ⟨rfl, rfl⟩) (shT (by omega) ha) ?_
  refine X.aload_n (pc := 20) (i := 0) 0 dX5_init_20 rfl rfl ?_
  refine X.bipush (pc := 21) (y := 20) dX5_init_21 rfl ⟨by decide, by decide⟩ ?_
  refine X.topI (y := ((20 : Nat) : Int)) rfl ?_
  refine T.newa (pc := 23) (t := 0) (N := 20) (K := K + 2) (K' := K + 3) (k' := 3) (n' := 60) dX5_init_23 (by decide) rfl ac_int (by decide) h2 (Fr_r (by omega) (Fr_m (K' := K + 2) (by omega) (Fr_r (by omega) (Fr_m (K' := K + 1) (by omega) hF)))) rfl rfl rfl (Nat.le_of_ble_eq_true rfl) (Nat.le_of_ble_eq_true rfl) ?_
  refine X.putR (pc := 25) dX5_init_25 fl_X5_18 rfl (fun _ => ⟨rfl, rfl⟩) (shT (by omega) ha) ?_
  refine X.aload_n (pc := 28) (i := 0) 0 dX5_init_28 rfl rfl ?_
  refine X.iconst (pc := 29) dX5_init_29 ⟨by decide, by decide⟩ ?_
  refine X.putI (pc := 30) dX5_init_30 fl_X5_21 rfl (fun h9 => by cases h9) (shT (by omega) ha) (Or.inl rfl) ?_
  exact X.vret (pc := 33) dX5_init_33 rfl (Nat.le_of_ble_eq_true rfl) (Nat.le_of_ble_eq_true rfl) h

theorem c_X0_init {ν : Nat → Nat → Option Nat} {μ : Nat → Nat → Int} {Q : xQ} {a K : Nat} (ha : SH[a]? = some (6, 0)) (haK : a < K) (h0 : SH[K]? = some (2, 81)) (hF : Fr K ν μ) (h : Q none (SH.take (K + 1)) ((upr ν a 0 (some K))) ((up (up μ a 1 1) a 2 1))) : X mX0_init 0 [(0, vR a)] [] (SH.take K) ν μ 0 0 Q := by
  refine X.aload_n (pc := 0) (i := 0) 0 dX0_init_0 rfl rfl ?_
  refine X.objInit (pc := 1) dX0_init_1 lk_X0_3 w_oi w_oc (by decide) (Nat.le_of_ble_eq_true rfl) ?_
  refine X.aload_n (pc := 4) (i := 0) 0 dX0_init_4 rfl rfl ?_
  refine X.bipush (pc := 5) (y := 81) dX0_init_5 rfl ⟨by decide, by decide⟩ ?_
  refine X.topI (y := ((81 : Nat) : Int)) rfl ?_
  refine T.newa (pc := 7) (t := 2) (N := 81) (K := K) (K' := K + 1) (k' := 1) (n' := 81) dX0_init_7 (by decide) rfl ac_byte (by decide) h0 hF rfl rfl rfl (Nat.le_of_ble_eq_true rfl) (Nat.le_of_ble_eq_true rfl) ?_
  refine X.putR (pc := 9) dX0_init_9 fl_X0_9 rfl (fun _ => ⟨rfl, rfl⟩) (shT (by omega) ha) ?_
  refine X.aload_n (pc := 12) (i := 0) 0 dX0_init_12 rfl rfl ?_
  refine X.iconst (pc := 13) dX0_init_13 ⟨by decide, by decide⟩ ?_
  refine X.putI (pc := 14) dX0_init_14 fl_X0_15 rfl (fun h9 => by cases h9) (shT (by omega) ha) (Or.inl rfl) ?_
  refine X.aload_n (pc := 17) (i := 0) 0 dX0_init_17 rfl rfl ?_
  refine X.iconst (pc := 18) dX0_init_18 ⟨by decide, by decide⟩ ?_
  refine X.putI (pc := 19) dX0_init_19 fl_X0_19 rfl (fun h9 => by cases h9) (shT (by omega) ha) (Or.inl rfl) ?_
  exact X.vret (pc := 22) dX0_init_22 rfl (Nat.le_of_ble_eq_true rfl) (Nat.le_of_ble_eq_true rfl) h

theorem c_X4_init {ν : Nat → Nat → Option Nat} {μ : Nat → Nat → Int} {Q : xQ} {a K : Nat} (ha : SH[a]? = some (6, 4)) (haK : a < K) (h0 : SH[K]? = some (1, 8)) (h1 : SH[K + 1]? = some (1, 8)) (h2 : SH[K + 2]? = some (1, 8)) (h3 : SH[K + 3]? = some (1, 8)) (h4 : SH[K + 4]? = some (0, 8)) (h5 : SH[K + 5]? = some (0, 40)) (h6 : SH[K + 6]? = some (0, 40)) (h7 : SH[K + 7]? = some (0, 40)) (h8 : SH[K + 8]? = some (1, 40)) (hF : Fr K ν μ) (h : Q none (SH.take (K + 9)) ((upr (upr (upr (upr (upr (upr (upr (upr (upr ν a 0 (some K)) a 1 (some (K + 1))) a 2 (some (K + 2))) a 3 (some (K + 3))) a 4 (some (K + 4))) a 5 (some (K + 5))) a 6 (some (K + 6))) a 7 (some (K + 7))) a 8 (some (K + 8)))) ((up (up μ a 9 0) a 10 0))) : X mX4_init 0 [(0, vR a)] [] (SH.take K) ν μ 0 0 Q := by
  refine X.aload_n (pc := 0) (i := 0) 0 dX4_init_0 rfl rfl ?_
  refine X.objInit (pc := 1) dX4_init_1 lk_X4_3 w_oi w_oc (by decide) (Nat.le_of_ble_eq_true rfl) ?_
  refine X.aload_n (pc := 4) (i := 0) 0 dX4_init_4 rfl rfl ?_
  refine X.bipush (pc := 5) (y := 8) dX4_init_5 rfl ⟨by decide, by decide⟩ ?_
  refine X.topI (y := ((8 : Nat) : Int)) rfl ?_
  refine T.newa (pc := 7) (t := 1) (N := 8) (K := K) (K' := K + 1) (k' := 1) (n' := 8) dX4_init_7 (by decide) rfl ac_long (by decide) h0 hF rfl rfl rfl (Nat.le_of_ble_eq_true rfl) (Nat.le_of_ble_eq_true rfl) ?_
  refine X.putR (pc := 9) dX4_init_9 fl_X4_9 rfl (fun _ => ⟨rfl, rfl⟩) (shT (by omega) ha) ?_
  refine X.aload_n (pc := 12) (i := 0) 0 dX4_init_12 rfl rfl ?_
  refine X.bipush (pc := 13) (y := 8) dX4_init_13 rfl ⟨by decide, by decide⟩ ?_
  refine X.topI (y := ((8 : Nat) : Int)) rfl ?_
  refine T.newa (pc := 15) (t := 1) (N := 8) (K := K + 1) (K' := K + 2) (k' := 2) (n' := 16) dX4_init_15 (by decide) rfl ac_long (by decide) h1 (Fr_r (by omega) (Fr_m (K' := K + 1) (by omega) hF)) rfl rfl rfl (Nat.le_of_ble_eq_true rfl) (Nat.le_of_ble_eq_true rfl) ?_
  refine X.putR (pc := 17) dX4_init_17 fl_X4_15 rfl (fun _ => ⟨rfl, rfl⟩) (shT (by omega) ha) ?_
  refine X.aload_n (pc := 20) (i := 0) 0 dX4_init_20 rfl rfl ?_
  refine X.bipush (pc := 21) (y := 8) dX4_init_21 rfl ⟨by decide, by decide⟩ ?_
  refine X.topI (y := ((8 : Nat) : Int)) rfl ?_
  refine T.newa (pc := 23) (t := 1) (N := 8) (K := K + 2) (K' := K + 3) (k' := 3) (n' := 24) dX4_init_23 (by decide) rfl ac_long (by decide) h2 (Fr_r (by omega) (Fr_m (K' := K + 2) (by omega) (Fr_r (by omega) (Fr_m (K' := K + 1) (by omega) hF)))) rfl rfl rfl (Nat.le_of_ble_eq_true rfl) (Nat.le_of_ble_eq_true rfl) ?_
  refine X.putR (pc := 25) dX4_init_25 fl_X4_18 rfl (fun _ => ⟨rfl, rfl⟩) (shT (by omega) ha) ?_
  refine X.aload_n (pc := 28) (i := 0) 0 dX4_init_28 rfl rfl ?_
  refine X.bipush (pc := 29) (y := 8) dX4_init_29 rfl ⟨by decide, by decide⟩ ?_
  refine X.topI (y := ((8 : Nat) : Int)) rfl ?_
  refine T.newa (pc := 31) (t := 1) (N := 8) (K := K + 3) (K' := K + 4) (k' := 4) (n' := 32) dX4_init_31 (by decide) rfl ac_long (by decide) h3 (Fr_r (by omega) (Fr_m (K' := K + 3) (by omega) (Fr_r (by omega) (Fr_m (K' := K + 2) (by omega) (Fr_r (by omega) (Fr_m (K' := K + 1) (by omega) hF)))))) rfl rfl rfl (Nat.le_of_ble_eq_true rfl) (Nat.le_of_ble_eq_true rfl) ?_
  refine X.putR (pc := 33) dX4_init_33 fl_X4_21 rfl (fun _ => ⟨rfl, rfl⟩) (shT (by omega) ha) ?_
  refine X.aload_n (pc := 36) (i := 0) 0 dX4_init_36 rfl rfl ?_
  refine X.bipush (pc := 37) (y := 8) dX4_init_37 rfl ⟨by decide, by decide⟩ ?_
  refine X.topI (y := ((8 : Nat) : Int)) rfl ?_
  refine T.newa (pc := 39) (t := 0) (N := 8) (K := K + 4) (K' := K + 5) (k' := 5) (n' := 40) dX4_init_39 (by decide) rfl ac_int (by decide) h4 (Fr_r (by omega) (Fr_m (K' := K + 4) (by omega) (Fr_r (by omega) (Fr_m (K' := K + 3) (by omega) (Fr_r (by omega) (Fr_m (K' := K + 2) (by omega) (Fr_r (by omega) (Fr_m (K' := K + 1) (by omega) hF)))))))) rfl rfl rfl (Nat.le_of_ble_eq_true rfl) (Nat.le_of_ble_eq_true rfl) ?_
  refine X.putR (pc := 41) dX4_init_41 fl_X4_24 rfl (fun _ => ⟨rfl, rfl⟩) (shT (by omega) ha) ?_
  refine X.aload_n (pc := 44) (i := 0) 0 dX4_init_44 rfl rfl ?_
  refine X.bipush (pc := 45) (y := 40) dX4_init_45 rfl ⟨by decide, by decide⟩ ?_
  refine X.topI (y := ((40 : Nat) : Int)) rfl ?_
  refine T.newa (pc := 47) (t := 0) (N := 40) (K := K + 5) (K' := K + 6) (k' := 6) (n' := 80) dX4_init_47 (by decide) rfl ac_int (by decide) h5 (Fr_r (by omega) (Fr_m (K' := K + 5) (by omega) (Fr_r (by omega) (Fr_m (K' := K + 4) (by omega) (Fr_r (by omega) (Fr_m (K' := K + 3) (by omega) (Fr_r (by omega) (Fr_m (K' := K + 2) (by omega) (Fr_r (by omega) (Fr_m (K' := K + 1) (by omega) hF)))))))))) rfl rfl rfl (Nat.le_of_ble_eq_true rfl) (Nat.le_of_ble_eq_true rfl) ?_
  refine X.putR (pc := 49) dX4_init_49 fl_X4_28 rfl (fun _ => ⟨rfl, rfl⟩) (shT (by omega) ha) ?_
  refine X.aload_n (pc := 52) (i := 0) 0 dX4_init_52 rfl rfl ?_
  refine X.bipush (pc := 53) (y := 40) dX4_init_53 rfl ⟨by decide, by decide⟩ ?_
  refine X.topI (y := ((40 : Nat) : Int)) rfl ?_
  refine T.newa (pc := 55) (t := 0) (N := 40) (K := K + 6) (K' := K + 7) (k' := 7) (n' := 120) dX4_init_55 (by decide) rfl ac_int (by decide) h6 (Fr_r (by omega) (Fr_m (K' := K + 6) (by omega) (Fr_r (by omega) (Fr_m (K' := K + 5) (by omega) (Fr_r (by omega) (Fr_m (K' := K + 4) (by omega) (Fr_r (by omega) (Fr_m (K' := K + 3) (by omega) (Fr_r (by omega) (Fr_m (K' := K + 2) (by omega) (Fr_r (by omega) (Fr_m (K' := K + 1) (by omega) hF)))))))))))) rfl rfl rfl (Nat.le_of_ble_eq_true rfl) (Nat.le_of_ble_eq_true rfl) ?_
  refine X.putR (pc := 57) dX4_init_57 fl_X4_31 rfl (fun _ => ⟨rfl, rfl⟩) (shT (by omega) ha) ?_
  refine X.aload_n (pc := 60) (i := 0) 0 dX4_init_60 rfl rfl ?_
  refine X.bipush (pc := 61) (y := 40) dX4_init_61 rfl ⟨by decide, by decide⟩ ?_
  refine X.topI (y := ((40 : Nat) : Int)) rfl ?_
  refine T.newa (pc := 63) (t := 0) (N := 40) (K := K + 7) (K' := K + 8) (k' := 8) (n' := 160) dX4_init_63 (by decide) rfl ac_int (by decide) h7 (Fr_r (by omega) (Fr_m (K' := K + 7) (by omega) (Fr_r (by omega) (Fr_m (K' := K + 6) (by omega) (Fr_r (by omega) (Fr_m (K' := K + 5) (by omega) (Fr_r (by omega) (Fr_m (K' := K + 4) (by omega) (Fr_r (by omega) (Fr_m (K' := K + 3) (by omega) (Fr_r (by omega) (Fr_m (K' := K + 2) (by omega) (Fr_r (by omega) (Fr_m (K' := K + 1) (by omega) hF)))))))))))))) rfl rfl rfl (Nat.le_of_ble_eq_true rfl) (Nat.le_of_ble_eq_true rfl) ?_
  refine X.putR (pc := 65) dX4_init_65 fl_X4_34 rfl (fun _ => ⟨rfl, rfl⟩) (shT (by omega) ha) ?_
  refine X.aload_n (pc := 68) (i := 0) 0 dX4_init_68 rfl rfl ?_
  refine X.bipush (pc := 69) (y := 40) dX4_init_69 rfl ⟨by decide, by decide⟩ ?_
  refine X.topI (y := ((40 : Nat) : Int)) rfl ?_
  refine T.newa (pc := 71) (t := 1) (N := 40) (K := K + 8) (K' := K + 9) (k' := 9) (n' := 200) dX4_init_71 (by decide) rfl ac_long (by decide) h8 (Fr_r (by omega) (Fr_m (K' := K + 8) (by omega) (Fr_r (by omega) (Fr_m (K' := K + 7) (by omega) (Fr_r (by omega) (Fr_m (K' := K + 6) (by omega) (Fr_r (by omega) (Fr_m (K' := K + 5) (by omega) (Fr_r (by omega) (Fr_m (K' := K + 4) (by omega) (Fr_r (by omega) (Fr_m (K' := K + 3) (by omega) (Fr_r (by omega) (Fr_m (K' := K + 2) (by omega) (Fr_r (by omega) (Fr_m (K' := K + 1) (by omega) hF)))))))))))))))) rfl rfl rfl (Nat.le_of_ble_eq_true rfl) (Nat.le_of_ble_eq_true rfl) ?_
  refine X.putR (pc := 73) dX4_init_73 fl_X4_37 rfl (fun _ => ⟨rfl, rfl⟩) (shT (by omega) ha) ?_
  refine X.aload_n (pc := 76) (i := 0) 0 dX4_init_76 rfl rfl ?_
  refine X.iconst (pc := 77) dX4_init_77 ⟨by decide, by decide⟩ ?_
  refine X.putI (pc := 78) dX4_init_78 fl_X4_40 rfl (fun h9 => by cases h9) (shT (by omega) ha) (Or.inl rfl) ?_
  refine X.aload_n (pc := 81) (i := 0) 0 dX4_init_81 rfl rfl ?_
  refine X.iconst (pc := 82) dX4_init_82 ⟨by decide, by decide⟩ ?_
  refine X.putI (pc := 83) dX4_init_83 fl_X4_44 rfl (fun h9 => by cases h9) (shT (by omega) ha) (Or.inl rfl) ?_
  exact X.vret (pc := 86) dX4_init_86 rfl (Nat.le_of_ble_eq_true rfl) (Nat.le_of_ble_eq_true rfl) h

theorem c_X2_init {ν : Nat → Nat → Option Nat} {μ : Nat → Nat → Int} {Q : xQ} {a K : Nat} (ha : SH[a]? = some (6, 2)) (haK : a < K) (h0 : SH[K]? = some (2, 400)) (h1 : SH[K + 1]? = some (2, 8000)) (hF : Fr K ν μ) (h : Q none (SH.take (K + 2)) ((upr (upr ν a 0 (some K)) a 1 (some (K + 1)))) ((up (up (up (up μ a 2 0) a 3 0) a 4 0) a 5 0))) : X mX2_init 0 [(0, vR a)] [] (SH.take K) ν μ 0 0 Q := by
  refine X.aload_n (pc := 0) (i := 0) 0 dX2_init_0 rfl rfl ?_
  refine X.objInit (pc := 1) dX2_init_1 lk_X2_3 w_oi w_oc (by decide) (Nat.le_of_ble_eq_true rfl) ?_
  refine X.aload_n (pc := 4) (i := 0) 0 dX2_init_4 rfl rfl ?_
  refine X.sipush (pc := 5) (y := 400) dX2_init_5 rfl ⟨by decide, by decide⟩ ?_
  refine X.topI (y := ((400 : Nat) : Int)) rfl ?_
  refine T.newa (pc := 8) (t := 2) (N := 400) (K := K) (K' := K + 1) (k' := 1) (n' := 400) dX2_init_8 (by decide) rfl ac_byte (by decide) h0 hF rfl rfl rfl (Nat.le_of_ble_eq_true rfl) (Nat.le_of_ble_eq_true rfl) ?_
  refine X.putR (pc := 10) dX2_init_10 fl_X2_9 rfl (fun _ => ⟨rfl, rfl⟩) (shT (by omega) ha) ?_
  refine X.aload_n (pc := 13) (i := 0) 0 dX2_init_13 rfl rfl ?_
  refine X.sipush (pc := 14) (y := 8000) dX2_init_14 rfl ⟨by decide, by decide⟩ ?_
  refine X.topI (y := ((8000 : Nat) : Int)) rfl ?_
  refine T.newa (pc := 17) (t := 2) (N := 8000) (K := K + 1) (K' := K + 2) (k' := 2) (n' := 8400) dX2_init_17 (by decide) rfl ac_byte (by decide) h1 (Fr_r (by omega) (Fr_m (K' := K + 1) (by omega) hF)) rfl rfl rfl (Nat.le_of_ble_eq_true rfl) (Nat.le_of_ble_eq_true rfl) ?_
  refine X.putR (pc := 19) dX2_init_19 fl_X2_15 rfl (fun _ => ⟨rfl, rfl⟩) (shT (by omega) ha) ?_
  refine X.aload_n (pc := 22) (i := 0) 0 dX2_init_22 rfl rfl ?_
  refine X.iconst (pc := 23) dX2_init_23 ⟨by decide, by decide⟩ ?_
  refine X.putI (pc := 24) dX2_init_24 fl_X2_18 rfl (fun h9 => by cases h9) (shT (by omega) ha) (Or.inl rfl) ?_
  refine X.aload_n (pc := 27) (i := 0) 0 dX2_init_27 rfl rfl ?_
  refine X.iconst (pc := 28) dX2_init_28 ⟨by decide, by decide⟩ ?_
  refine X.putI (pc := 29) dX2_init_29 fl_X2_22 rfl (fun h9 => by cases h9) (shT (by omega) ha) (Or.inl rfl) ?_
  refine X.aload_n (pc := 32) (i := 0) 0 dX2_init_32 rfl rfl ?_
  refine X.iconst (pc := 33) dX2_init_33 ⟨by decide, by decide⟩ ?_
  refine X.putI (pc := 34) dX2_init_34 fl_X2_25 rfl (fun h9 => by cases h9) (shT (by omega) ha) (Or.inl rfl) ?_
  refine X.aload_n (pc := 37) (i := 0) 0 dX2_init_37 rfl rfl ?_
  refine X.iconst (pc := 38) dX2_init_38 ⟨by decide, by decide⟩ ?_
  refine X.putI (pc := 39) dX2_init_39 fl_X2_28 rfl (fun h9 => by cases h9) (shT (by omega) ha) (Or.inl rfl) ?_
  exact X.vret (pc := 42) dX2_init_42 rfl (Nat.le_of_ble_eq_true rfl) (Nat.le_of_ble_eq_true rfl) h
