/-! what the law's entry gives: the tables, the classes, the arrays' classes -/
theorem kn_of {s : State} {args : Array Value} {own : String} {idx ci : Nat} (hts : ∀ w ∈ xT, w.before args s = true) (h : xNL own idx ci) : ∃ (cC : ClassId) (iS : Nat → Nat), ∀ q, vwCl[ci]? = some q → u_Kn s q.1 q.2.1 q.2.2 cC iS := by
  obtain ⟨C, T, N, hcl, -, hi, -, -⟩ := h
  obtain ⟨cC, iS, hk⟩ := u_known (N := N) (n := N) hts hcl.2.2.1 (hts _ hi)
  refine ⟨cC, iS, fun q hq => ?_⟩
  rw [hcl.1] at hq
  cases hq
  exact hk
theorem kn_all {s : State} {args : Array Value} (hts : ∀ w ∈ xT, w.before args s = true) (ci : Nat) : ∃ (D : ClassId × (Nat → Nat)), ∀ q, vwCl[ci]? = some q → u_Kn s q.1 q.2.1 q.2.2 D.1 D.2 := by
  have g {own : String} {idx c : Nat} (h : xNL own idx c) : ∃ (D : ClassId × (Nat → Nat)), ∀ q, vwCl[c]? = some q → u_Kn s q.1 q.2.1 q.2.2 D.1 D.2 := by
    obtain ⟨cC, iS, hk⟩ := kn_of hts h
    exact ⟨(cC, iS), hk⟩
  match ci with
  | 0 => exact g nl_X9_23
  | 1 => exact g nl_X9_30
  | 2 => exact g nl_X9_51
  | 3 => exact g nl_X9_9
  | 4 => exact g nl_X1_9
  | 5 => exact g nl_X9_16
  | 6 => exact g nl_X3_17
  | 7 => exact g nl_X3_9
  | 8 => exact g nl_X9_42
  | 9 => exact g nl_L_7
  | 10 => exact g nl_L_10
  | k + 11 => exact ⟨(0, fun _ => 0), fun q hq => by
      have := (List.getElem?_eq_some_iff.mp hq).1
      simp at this
      exact absurd this (by omega)⟩
theorem ar_of {s : State} {args : Array Value} {ty : FieldType} (h : (Cond.arrayClass ty).before args s = true) : ∃ cA : ClassId, ArrOfT s cA ty ∧ s.vm.findClass ("[" ++ ty.toString) = some cA := by
  obtain ⟨cA, kA, comp, h1, h2, h3⟩ := Cond.arrayClass_spec h
  exact ⟨cA, fun n z => ⟨fun k h => (by cases h), kA, h2, comp, h3⟩, h1⟩
theorem va_known {s : State} {args : Array Value} (hts : ∀ w ∈ xT, w.before args s = true) (hX : xXt s) : ∃ (D : va_G) (cy : Nat → ClassId), va_K D vwCl (xtys cy) s := by
  obtain ⟨F, hF⟩ := Classical.axiomOfChoice (kn_all hts)
  obtain ⟨c0, a0, b0⟩ := ar_of (hts _ ac_int)
  obtain ⟨c1, a1, b1⟩ := ar_of (hts _ ac_long)
  obtain ⟨c2, a2, b2⟩ := ar_of (hts _ ac_byte)
  obtain ⟨c3, a3, b3⟩ := ar_of (hts _ ac_boolean)
  obtain ⟨p4, c4, k4, f4, -, g4, h4, i4⟩ := Cond.arrayOver_spec hX.1
  obtain ⟨p5, c5, k5, f5, -, g5, h5, i5⟩ := arrayOverA_spec hX.2.1
  refine ⟨(fun k => (F k).1, fun k => (F k).2), fun k => match k with
    | 0 => c0
    | 1 => c1
    | 2 => c2
    | 3 => c3
    | 4 => c4
    | _ => c5, fun c q hq => hF c q hq, fun k q hq => ?_⟩
  match k, hq with
  | 0, hq => cases hq; exact ⟨a0, b0⟩
  | 1, hq => cases hq; exact ⟨a1, b1⟩
  | 2, hq => cases hq; exact ⟨a2, b2⟩
  | 3, hq => cases hq; exact ⟨a3, b3⟩
  | 4, hq => cases hq; exact ⟨fun n z => ⟨fun k h => (by cases h), k4, g4, p4, h4⟩, k4, p4, g4, h4, f4, i4⟩
  | 5, hq => cases hq; exact ⟨fun n z => ⟨fun k h => (by cases h), k5, g5, p5, h5⟩, i5⟩
  | k + 6, hq => exact absurd (List.getElem?_eq_some_iff.mp hq).1 (by unfold xtys; simp)
theorem xt_of {s : State} {args : Array Value} (hts : ∀ w ∈ lw_tbl, w.before args s = true) : xXt s := by
  have g (i : Nat) (w : Cond) (hw : w.onTables = true) (h : lw_tbl[i]? = some w) : va_Nw w s := va_Nw.of hw (hts w (List.mem_of_getElem? h))
  refine ⟨hts (Cond.arrayOver (.object RX7)) (List.mem_of_getElem? (i := 75) (by decide +kernel)), arrayOver_alikeB (Vm.Alike.refl s.vm) (hts (Cond.arrayOver (.array .int)) (List.mem_of_getElem? (i := 327) (by decide +kernel))), ?_⟩
  unfold xNest
  simp only [List.forall_mem_cons]
  refine ⟨g 78 _ rfl (by decide +kernel), g 110 _ rfl (by decide +kernel), g 115 _ rfl (by decide +kernel), g 179 _ rfl (by decide +kernel), g 209 _ rfl (by decide +kernel), g 235 _ rfl (by decide +kernel), g 373 _ rfl (by decide +kernel), g 543 _ rfl (by decide +kernel), g 671 _ rfl (by decide +kernel), fun q hq => absurd hq List.not_mem_nil⟩
theorem lC_of {p : Program} {l : Launch} {e : Env} {s : State} {m : MethodId} {below : List Frame} {meth : Method} {c : Code} {b L : Nat} {xs : Nat → Int32} (C0 : lw_At p s m meth c b L xs) : ∃ (D : va_G) (cy : Nat → ClassId), lC ((D, cy, p, l, e, s), (m, below, meth, c), b, L, xs) := by
  obtain ⟨hx, hb, hr, hml, hown, hts, hX, hbl, hlocks, -⟩ := C0
  have hT : ∀ w ∈ xT, w.before #[Value.ref b] s = true := fun w hw => hts w (List.mem_filter.mp hw).1
  have hXt := xt_of hts
  obtain ⟨D, cy, hK⟩ := va_known hT hXt
  exact ⟨D, cy, hx, hb, hr, hml, hown, hT, hK, hlocks, hXt, hX, hbl⟩
