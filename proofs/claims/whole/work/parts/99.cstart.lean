/-! the law, from its entry -/
section SL
variable {G : LX}
theorem tk_1 : ([] ++ [(6, 9)] : List (Nat × Nat)) = SH.take 1 := by decide +kernel
theorem tk_265 : (SH.take 265).length = 265 := by decide +kernel
theorem tk_266 : SH.take 265 ++ [(6, 10)] = SH.take 266 := by decide +kernel
theorem l_start2 (hC : lC G) (hL : G.L ≤ 3072) {ν1 : Nat → Nat → Option Nat} {μE : Nat → Nat → Int} (h2 : ptG ν1) (h3 : ptR ν1 40) (HX : XS S00 259 μE) (hz : ∀ b, 265 ≤ b → μE b = fun _ => 0) : LJ G 7 [] [vR 0] (SH.take 265) (nuE ν1) μE 265 127145 := by
  have hF : Fr 265 (nuE ν1) μE := fun b hb => ⟨nuE_z hb, hz b hb⟩
  refine LJ.astore1 (pc := 7) hC d_law_7 ?_
  refine LJ.new (pc := 8) (idx := 10) (ci := 10) hC d_law_8 nl_L_10 (Nat.le_of_ble_eq_true rfl) (Nat.le_of_ble_eq_true rfl) ?_
  rw [tk_265, tk_266, (Fr_zr hF).1, (Fr_zr hF).2]
  refine LJ.dup (pc := 11) hC d_law_11 rfl ?_
  refine LJ.callI (pc := 12) (vs := []) (st := [vR 265]) hC d_law_12 rfl okM_X10_init rfl lk_L_12 inst_X10_init rfl rfl ⟨⟨Nat.le_of_ble_eq_true rfl, Nat.le_of_ble_eq_true rfl⟩, ⟨Nat.le_of_ble_eq_true rfl, Nat.le_of_ble_eq_true rfl⟩, Nat.le_of_ble_eq_true rfl⟩ (Nat.le_of_ble_eq_true rfl) (c_X10_init (Fr_m (by omega) hF) (wf_made h2 h3) fun μ' g1 g2 g3 => ?_)
  refine LJ.nrm (pc' := 15) (ls' := [(1, vR 0)]) (st' := [vR 265]) (k' := 301) (n' := 372331) rfl rfl rfl rfl rfl ?_
  refine LJ.astore2 (pc := 15) hC d_law_15 ?_
  refine LJ.iconst (pc := 16) hC d_law_16 ⟨by decide, by decide⟩ ?_
  refine LJ.istore3 (pc := 17) hC d_law_17 ?_
  have hw : Wd S00 (nuM (nuE ν1)) μ' := ⟨okS_00, MS_00 hz g1 g2 g3, 259, 262, wf_made h2 h3, XS_lift (fun b hb => g2.1 b (by omega) (by omega)) (Or.inl rfl) (Nat.zero_le 40) HX⟩
  exact l_loop hC hL (Nat.le_of_ble_eq_true rfl) (Nat.le_of_ble_eq_true rfl) G.L 0 S00 _ _ (by omega) hw
theorem l_start (hC : lC G) (hL : G.L ≤ 3072) : LJ G 0 [] [] [] (fun _ _ => none) (fun _ _ => 0) 0 0 := by
  have hF : Fr 0 (fun _ _ => none) (fun _ _ => 0) := fun b _ => ⟨rfl, rfl⟩
  refine LJ.new (pc := 0) (idx := 7) (ci := 9) hC d_law_0 nl_L_7 (Nat.le_of_ble_eq_true rfl) (Nat.le_of_ble_eq_true rfl) ?_
  rw [tk_1, show ([] : List (Nat × Nat)).length = 0 from rfl, (Fr_zr hF).1, (Fr_zr hF).2]
  refine LJ.dup (pc := 3) hC d_law_3 rfl ?_
  refine LJ.callI (pc := 4) (vs := []) (st := [vR 0]) hC d_law_4 rfl okM_X9_init rfl lk_L_9 inst_X9_init rfl rfl ⟨⟨Nat.le_of_ble_eq_true rfl, Nat.le_of_ble_eq_true rfl⟩, ⟨Nat.le_of_ble_eq_true rfl, Nat.le_of_ble_eq_true rfl⟩, Nat.le_of_ble_eq_true rfl⟩ (Nat.le_of_ble_eq_true rfl) (c_X9_init (Fr_m (by omega) hF) fun ν1 μ1 μ2 μ3 f1 f2 f3 f4 f5 f6 f7 f8 f9 f10 => ?_)
  refine LJ.nrm (pc' := 7) (ls' := []) (st' := [vR 0]) (k' := 265) (n' := 127145) rfl rfl rfl rfl rfl ?_
  obtain ⟨HX, hz⟩ := XS_00 f1 f4 f5 f6 f7 f8 f9 f10
  exact l_start2 hC hL f2 f3 HX hz
end SL
/-- THE LAW, from its entry -/
theorem whole_start {p : Program} {e : Env} {s : State} {m : MethodId} {below : List Frame} {meth : Method} {c : Code} (l : Launch) (hflags : l.flags = flags0) {b L : Nat} {xs : Nat → Int32} (hL : L ≤ 3072) (C0 : lw_At p s m meth c b L xs) : W p l e room_1 s m #[Value.ref b] below meth c s.heap [] 0 0 (lw_Z below #[Value.ref b] s) (entryFrame m ([Value.ref b] : List Value).toArray 4) := by
  obtain ⟨D, cy, hC⟩ := lC_of (l := l) (e := e) (below := below) C0
  have K := l_start hC hL
  have hl := lv_entry ([.ref b]) (n := 4) (Nat.le_of_ble_eq_true rfl)
  rw [lg_entry_eq]
  generalize (lg_sl ([.ref b]) ++ List.replicate (4 - (lg_sl ([.ref b])).length) Slot.unset).toArray = ls at hl ⊢
  have hR : xRep D cy s.heap.size [] (fun _ _ => none) (fun _ _ => 0) s.heap := ⟨rfl, fun k q h => (by simp [xW] at h), fun k q h => (by simp at h)⟩
  exact K s.heap [] ls hR va_S.rf hl (fun q h => absurd h List.not_mem_nil) (fun q h => absurd h List.not_mem_nil)
