/-! rules: calls, new cells, the library's methods -/
def xargs : Nat → List xV → List (Nat × xV)
  | _, [] => []
  | i, v :: vs => (i, v) :: xargs (i + xcat v) vs
theorem xargs_lv (base : Nat) : ∀ (vs : List xV) (i : Nat), lv_args i (vs.map (xtr base)) = (xargs i vs).map fun q => (q.1, xtr base q.2)
  | [], _ => rfl
  | v :: vs, i => by
    show (i, xtr base v) :: lv_args _ (vs.map (xtr base)) = (i, xtr base v) :: (xargs (i + xcat v) vs).map fun q => (q.1, xtr base q.2)
    have h : (if (xtr base v).category = 2 then i + 2 else i + 1) = i + xcat v := by
      rw [xtr_cat]
      rcases v with x | x | _ | x <;> rfl
    rw [h, xargs_lv base vs]
theorem xsl_len (base : Nat) : ∀ vs : List xV, (lg_sl (vs.map (xtr base))).length = (vs.map xcat).sum
  | [] => rfl
  | v :: vs => by
    have h := xsl_len base vs
    unfold lg_sl at h ⊢
    rw [List.map_cons, List.flatMap_cons, List.length_append, h, xtr_cat]
    rcases v with x | x | _ | x <;> simp [xcat]
theorem xargs_ok {K : Nat} : ∀ (vs : List xV) (i : Nat), (∀ v ∈ vs, xok K v) → ∀ q ∈ xargs i vs, xok K q.2
  | [], _, _, q, hq => by cases hq
  | v :: vs, i, h, q, hq => by
    rcases List.mem_cons.mp hq with e | e
    · rw [e]; exact h v List.mem_cons_self
    · exact xargs_ok vs _ (fun u hu => h u (List.mem_cons_of_mem _ hu)) q e
/-- what the tables have of a method; n: how many parameters -/
def xOKM (M : xM) (n : Nat) : Prop := Cond.code M.1 M.2.1 M.2.2.1 M.2.2.2.1 ∈ xT ∧ Cond.initialized M.1.cls ∈ xT ∧ plainName M.1.cls = true ∧ (M.1.cls ≠ "java/lang/invoke/MethodHandle" ∧ M.1.cls ≠ "java/lang/invoke/VarHandle" ∧ (parseMethodDescriptor M.1.desc).map (fun d => d.parameters.length) = some n)
abbrev xws (M : xM) : List Cond := Cond.code M.1 M.2.1 M.2.2.1 M.2.2.2.1 :: xT
theorem xws_good {M : xM} {n : Nat} (h : xOKM M n) : GoodIn xT (xws M) := by
  intro w hw
  rcases List.mem_cons.mp hw with e | e
  · rw [e]; exact ⟨h.1, good_of_word (xT_good _ h.1)⟩
  · exact ⟨e, good_of_word (xT_good _ e)⟩
def xPc (D : va_G) (cy : Nat → ClassId) (base : Nat) (vs : List xV) (sh : List (Nat × Nat)) (ν : Nat → Nat → Option Nat) (μ : Nat → Nat → Int) : Array Value → State → Prop := fun a U => a = (vs.map (xtr base)).toArray ∧ xRep D cy base sh ν μ U.heap ∧ va_K D vwCl (xtys cy) U ∧ xXt U
def xQc (D : va_G) (cy : Nat → ClassId) (base : Nat) (Q : xQ) : Array Value → State → Outcome → State → Prop := fun _ st o t => ∃ (v : Option xV) (sh : List (Nat × Nat)) (ν : Nat → Nat → Option Nat) (μ : Nat → Nat → Int), o = .returned (v.map (xtr base)) ∧ Q v sh ν μ ∧ (∀ w, v = some w → xok sh.length w) ∧ xRep D cy base sh ν μ t.heap ∧ va_F (fun q : Nat => base ≤ q) st t
theorem x_met {l : Launch} {M : xM} {n : Nat} {D : va_G} {cy : Nat → ClassId} {base : Nat} {vs : List xV} {sh : List (Nat × Nat)} {ν : Nat → Nat → Option Nat} {μ : Nat → Nat → Int} {Q : xQ} (hM : xOKM M n) (hlen : (vs.map xcat).sum ≤ M.2.2.1) (hok : ∀ v ∈ vs, xok sh.length v) (K : X M 0 (xargs 0 vs) [] sh ν μ 0 0 Q) :
    Met l M.1 (xws M) M.2.2.2.2 (xPc D cy base vs sh ν μ) (xQc D cy base Q) M.2.2.2.2.cells M.2.2.2.2.slots (fun q : Nat => base ≤ q) := by
  refine Met.ofW (cc := M.2.1) (maxL := M.2.2.1) (ret := M.2.2.2.1) hM.2.2.1 rfl ?_
  intro p e s m args below meth c s₁ B hml hv
  obtain ⟨rfl, hR, hK, hXt⟩ := hv
  have hts := atoms_spec (ws := xws M) B.pre
  have hown : s.vm.findClass M.1.cls = some m.cls := findClass_of_methodNamed B.named
  have hC : xC M D cy base p s m (vs.map (xtr base)).toArray meth c := ⟨B.exec, B.bytes, B.returns, hml, hown, fun w hw => hts w (List.mem_cons_of_mem _ hw), hK, by rw [hR.1]; exact Nat.le_add_right _ _, B.notSynchronized, (name_of_methodNamed B.named B.method).1, hXt⟩
  have hl := lv_entry (vs.map (xtr base)) (n := M.2.2.1) (by rw [xsl_len]; exact hlen)
  rw [lg_entry_eq]
  generalize (lg_sl (vs.map (xtr base)) ++ List.replicate (M.2.2.1 - (lg_sl (vs.map (xtr base))).length) Slot.unset).toArray = lsA at hl ⊢
  rw [xargs_lv] at hl
  refine K D cy base p l e s m _ below meth c _ hC ?_ s.heap [] lsA hR va_S.rf hl (xargs_ok vs 0 hok) (fun v hv => by cases hv)
  intro v sh' ν' μ' H locs pc lsA' hQ hR' hok' hS hri
  have hq : ∀ t : State, t.heap = H → s.WarmedH t.vm → xQc D cy base Q (vs.map (xtr base)).toArray s (.returned (v.map (xtr base))) t := fun t ht _ => ⟨v, sh', ν', μ', rfl, hQ, hok', by rw [ht]; exact hR', hS.F ht⟩
  rcases v with _ | x | x | x
  · exact W.vret B.exec B.bytes (B.returns.trans hri.2) hq hS.2.2 hri.1 B.notSynchronized
  · obtain ⟨h1, h2 | ⟨h2, h3⟩⟩ := hri
    · exact W.iret B.exec B.bytes (B.returns.trans h2) hq hS.2.2 h1 B.notSynchronized
    · exact W.zret B.exec B.bytes (B.returns.trans h2) (x_nar (ty := .boolean) rfl (Or.inr h3)).1 hq hS.2.2 h1 B.notSynchronized
  · exact W.lret B.exec B.bytes (B.returns.trans hri.2) hq hS.2.2 hri.1 B.notSynchronized
  · exact hri.elim
theorem x_blind {D : va_G} {cy : Nat → ClassId} {base : Nat} {vs : List xV} {sh : List (Nat × Nat)} {ν : Nat → Nat → Option Nat} {μ : Nat → Nat → Int} : FrameBlind (xPc D cy base vs sh ν μ) := by
  intro a U g mk q
  obtain ⟨q1, q2, q3, q4⟩ := q
  exact ⟨q1, q2, va_K.moved (u := U) (U := U.calling g mk a) (Vm.Alike.refl U.vm) q3, q4⟩
theorem x_toL (base : Nat) (v : Option xV) (st : List xV) : (v.map (xtr base)).toList ++ st.map (xtr base) = (v.toList ++ st).map (xtr base) := by
  cases v <;> simp
/-- behind a call -/
theorem x_back {M M' : xM} {D : va_G} {cy : Nat → ClassId} {base : Nat} {Q : xQ} {p : Program} {l : Launch} {e : Env} {s : State} {m : MethodId} {args : Array Value} {below : List Frame} {meth : Method} {c : Code} {Z : State → Prop} {H : Heap} {locs : List Loc} {lsA : Array Slot} {pc : Nat} {ls : List (Nat × xV)} {st st0 : List xV} {a : Array Value} {sh : List (Nat × Nat)} {k n : Nat}
    (hC : xC M D cy base p s m args meth c) (hZ : xZ M D cy base Q p l e s m args below meth c Z) (hS : va_S (fun q : Nat => base ≤ q) s.heap H locs) (hl : lv_has lsA M.2.2.1 (ls.map fun q => (q.1, xtr base q.2))) (okl : ∀ q ∈ ls, xok sh.length q.2) (oks : ∀ v ∈ st, xok sh.length v) (hsz : H.size = base + sh.length)
    (hr : va_Run p l e M.2.2.2.2 s m args below meth c H locs k n M'.2.2.2.2.cells M'.2.2.2.2.slots (F0 m pc lsA (st0.map (xtr base))) (st.map (xtr base)) (xQc D cy base (fun v sh' ν' μ' => X M (pc + 3) ls (v.toList ++ st) sh' ν' μ' (k + M'.2.2.2.2.cells) (n + M'.2.2.2.2.slots) Q) a) (fun q : Nat => base ≤ q)) :
    W p l e M.2.2.2.2 s m args below meth c H locs k n Z (F0 m pc lsA (st0.map (xtr base))) := by
  intro T hT X1
  obtain ⟨v, st₀, t, T', L, h0, X', hL, e1, e2, ⟨v', sh', ν', μ', hv, hK, hokv, hR', hz, hkeep⟩, stp⟩ := hr T hT X1
  cases hv
  rw [h0] at hz hkeep
  have hR2 : xRep D cy base sh' ν' μ' T'.heap := by rw [e1]; exact hR'
  have hlen : sh.length ≤ sh'.length := by
    have h1 := hR'.1
    omega
  have okm : ∀ v : xV, xok sh.length v → xok sh'.length v := by
    intro v hv
    rcases v with x | x | _ | x
    · exact hv
    · exact hv
    · exact hv
    · exact Nat.lt_of_lt_of_le hv hlen
  have hS' : va_S (fun q : Nat => base ≤ q) s.heap T'.heap (locs ++ L) := ⟨Nat.le_trans hS.1 (by rw [e1]; exact hz), fun q h1 h2 => by rw [e1, hkeep q (Nat.lt_of_lt_of_le h1 hS.1) h2]; exact hS.2.1 q h1 h2, fun q hq => by
      rcases List.mem_append.mp hq with h | h
      · exact hS.2.2 q h
      · exact hL q h⟩
  obtain ⟨t2, a1, b1⟩ := hK D cy base p l e s m args below meth c Z hC hZ T'.heap (locs ++ L) lsA hR2 hS' hl (fun q hq => okm _ (okl q hq)) (fun u hu => by
      rcases List.mem_append.mp hu with h | h
      · cases v' with
        | none => cases h
        | some w => rw [List.mem_singleton.mp h]; exact hokv w rfl
      · exact okm _ (oks u h)) T' rfl X'
  refine ⟨t2, stp t2 ?_, b1⟩
  rw [← x_toL] at a1
  exact a1
theorem x_catsum (base : Nat) (st : List xV) : ((st.map (xtr base)).map fun v => v.category).sum = (st.map xcat).sum := by
  rw [List.map_map]
  congr 1
  apply List.map_congr_left
  intro v _
  exact xtr_cat base v
section XR
variable {M : xM} {pc : Nat} {ls : List (Nat × xV)} {st : List xV} {sh : List (Nat × Nat)} {ν : Nat → Nat → Option Nat} {μ : Nat → Nat → Int} {k n : Nat} {Q : xQ}
theorem x_oks_split {K : Nat} {vs st : List xV} (h : ∀ v ∈ vs.reverse ++ st, xok K v) : (∀ v ∈ vs, xok K v) ∧ ∀ v ∈ st, xok K v := ⟨fun v hv => h v (List.mem_append_left _ (List.mem_reverse.mpr hv)), fun v hv => h v (List.mem_append_right _ hv)⟩
/-- the room that a call wants of its caller -/
def xRm (M M' : xM) (k n : Nat) (st : List xV) : Prop := (M'.2.2.2.2.frames + 1 ≤ M.2.2.2.2.frames ∧ 8 + (M'.2.2.1 + 11) + M'.2.2.2.2.locals ≤ M.2.2.2.2.locals) ∧ (k + M'.2.2.2.2.cells ≤ M.2.2.2.2.cells ∧ n + M'.2.2.2.2.slots ≤ M.2.2.2.2.slots) ∧ (st.map xcat).sum ≤ 8
theorem X.callV {M' : xM} {idx ci a N : Nat} {vs : List xV} {st0 : List xV} (d : decode M.2.1 pc = .ok (.invokevirtual idx, 3)) (hst : st0 = vs.reverse ++ vR a :: st) (hM : xOKM M' N) (hN : vs.length = N) (hw : Cond.methodLink M.1.cls idx M'.1 ∈ xT) (hi : Cond.instanceMethod M'.1 ∈ xT) (hse : Cond.selects M'.1.cls M'.1 M'.1 ∈ xT) (hs : sh[a]? = some (6, ci)) (hci : (vwCl[ci]?).map (·.1) = some M'.1.cls)
    (hrm : xRm M M' k n st) (hlen : 1 + (vs.map xcat).sum ≤ M'.2.2.1) (K : X M' 0 (xargs 0 (vR a :: vs)) [] sh ν μ 0 0 (fun v sh' ν' μ' => X M (pc + 3) ls (v.toList ++ st) sh' ν' μ' (k + M'.2.2.2.2.cells) (n + M'.2.2.2.2.slots) Q)) : X M pc ls st0 sh ν μ k n Q := by
  subst hst
  intro D cy base p l e s m args below meth c Z hC hZ H locs lsA hR hS hl okl oks
  obtain ⟨okv, ok2⟩ := x_oks_split oks
  have oka : ∀ v ∈ vR a :: vs, xok sh.length v := x_c0 (x_h ok2) okv
  have hmet := x_met (l := l) (D := D) (cy := cy) (base := base) (n := N) hM (vs := vR a :: vs) hlen oka K
  obtain ⟨hx, hb, hr, hml, hown, hts, hK, hbase, hlk, hnm, hXt⟩ := hC
  have hPa := hR.2.1 a _ (xW_get hs)
  obtain ⟨r, h1, cell, q1, q2, q3, q4⟩ := hPa
  have hr0 : r.1 = M'.1.cls := by
    rw [h1] at hci
    exact Option.some.inj hci
  obtain ⟨hSl, hfc, -⟩ := hK.1 ci r h1
  refine x_back (M' := M') (k := k) (n := n) (sh := sh) (st0 := vs.reverse ++ vR a :: st) ⟨hx, hb, hr, hml, hown, hts, hK, hbase, hlk, hnm, hXt⟩ hZ hS hl okl (x_t ok2) hR.1 (va_runV (As := vs.map (xtr base)) (b := base + a) (C := M'.1.cls) (Ts := xT) ⟨hx, hb, hml, hown, hts⟩ hmet ⟨callB_of N hts (xws_good hM) rfl rfl rfl (hts _ hM.2.1) (hts _ hw) hM.2.2.2 hrm.1, hts _ hi, hts _ hse⟩ ⟨x_blind, ⟨cell, q1, by rw [q3]; rfl, by rw [q2, ← hr0]; exact hfc⟩, ?_⟩ rfl (by rw [List.length_map]; exact hN) hl.1 ?_ ?_ d hrm.2.1)
  · intro U hU hW
    exact ⟨rfl, by rw [hU]; exact hR, va_K.moved hW.alike hK, hXt.warm hW⟩
  · simp [xtr]
  · rw [x_catsum]
    exact (show 2 * 0 + (st.map xcat).sum ≤ 8 by have := hrm.2.2; omega)
theorem X.callS {M' : xM} {idx N : Nat} {vs : List xV} {st0 : List xV} (d : decode M.2.1 pc = .ok (.invokestatic idx, 3)) (hst : st0 = vs.reverse ++ st) (hM : xOKM M' N) (hN : vs.length = N) (hw : Cond.methodLink M.1.cls idx M'.1 ∈ xT) (hi : Cond.static M'.1 ∈ xT)
    (hrm : xRm M M' k n st) (hlen : (vs.map xcat).sum ≤ M'.2.2.1) (K : X M' 0 (xargs 0 vs) [] sh ν μ 0 0 (fun v sh' ν' μ' => X M (pc + 3) ls (v.toList ++ st) sh' ν' μ' (k + M'.2.2.2.2.cells) (n + M'.2.2.2.2.slots) Q)) : X M pc ls st0 sh ν μ k n Q := by
  subst hst
  intro D cy base p l e s m args below meth c Z hC hZ H locs lsA hR hS hl okl oks
  obtain ⟨okv, ok2⟩ := x_oks_split oks
  have hmet := x_met (l := l) (D := D) (cy := cy) (base := base) (n := N) hM (vs := vs) hlen okv K
  obtain ⟨hx, hb, hr, hml, hown, hts, hK, hbase, hlk, hnm, hXt⟩ := hC
  refine x_back (M' := M') (k := k) (n := n) (sh := sh) (st0 := vs.reverse ++ st) ⟨hx, hb, hr, hml, hown, hts, hK, hbase, hlk, hnm, hXt⟩ hZ hS hl okl ok2 hR.1 (va_runS (As := vs.map (xtr base)) (Ts := xT) ⟨hx, hb, hml, hown, hts⟩ hmet ⟨callB_of N hts (xws_good hM) rfl rfl rfl (hts _ hM.2.1) (hts _ hw) hM.2.2.2 hrm.1, hts _ hi⟩ ⟨x_blind, ?_⟩ rfl (by rw [List.length_map]; exact hN) hl.1 ?_ ?_ d hrm.2.1)
  · intro U hU hW
    exact ⟨rfl, by rw [hU]; exact hR, va_K.moved hW.alike hK, hXt.warm hW⟩
  · simp
  · rw [x_catsum]
    exact (show 2 * 0 + (st.map xcat).sum ≤ 8 by have := hrm.2.2; omega)
theorem x_cn {M M' : xM} {s : State} {args : Array Value} {N idx : Nat} {host : String} {Ts : List Cond} (hts : ∀ w ∈ xT, w.before args s = true) (hM : xOKM M' N) (hXt : xXt s) (hw : (M.1.cls, idx, M'.1, host) ∈ xNest) (hR : M'.2.2.2.2.frames + 1 ≤ M.2.2.2.2.frames ∧ 8 + (M'.2.2.1 + 11) + M'.2.2.2.2.locals ≤ M.2.2.2.2.locals) :
    va_CN M.2.2.2.2 s args M.1.cls idx M'.1 host M'.2.1 M'.2.2.1 M'.2.2.2.1 (xws M') M'.2.2.2.2 M'.2.2.2.2.cells M'.2.2.2.2.slots N := va_cnB N hts (xws_good hM) rfl rfl rfl (hXt.2.2 _ hw) (hts _ hM.2.1) hM.2.2.2 hR
theorem X.callSN {M' : xM} {idx N : Nat} {host : String} {vs : List xV} {st0 : List xV} (d : decode M.2.1 pc = .ok (.invokestatic idx, 3)) (hst : st0 = vs.reverse ++ st) (hM : xOKM M' N) (hN : vs.length = N) (hw : (M.1.cls, idx, M'.1, host) ∈ xNest) (hi : Cond.static M'.1 ∈ xT)
    (hrm : xRm M M' k n st) (hlen : (vs.map xcat).sum ≤ M'.2.2.1) (K : X M' 0 (xargs 0 vs) [] sh ν μ 0 0 (fun v sh' ν' μ' => X M (pc + 3) ls (v.toList ++ st) sh' ν' μ' (k + M'.2.2.2.2.cells) (n + M'.2.2.2.2.slots) Q)) : X M pc ls st0 sh ν μ k n Q := by
  subst hst
  intro D cy base p l e s m args below meth c Z hC hZ H locs lsA hR hS hl okl oks
  obtain ⟨okv, ok2⟩ := x_oks_split oks
  have hmet := x_met (l := l) (D := D) (cy := cy) (base := base) (n := N) hM (vs := vs) hlen okv K
  obtain ⟨hx, hb, hr, hml, hown, hts, hK, hbase, hlk, hnm, hXt⟩ := hC
  refine x_back (M' := M') (k := k) (n := n) (sh := sh) (st0 := vs.reverse ++ st) ⟨hx, hb, hr, hml, hown, hts, hK, hbase, hlk, hnm, hXt⟩ hZ hS hl okl ok2 hR.1 (va_runSN (As := vs.map (xtr base)) (Ts := xT) ⟨hx, hb, hml, hown, hts⟩ hmet ⟨x_cn (Ts := []) hts hM hXt hw hrm.1, hts _ hi, trivial⟩ ⟨x_blind, ?_⟩ rfl (by rw [List.length_map]; exact hN) hl.1 ?_ ?_ d hrm.2.1)
  · intro U hU hW
    exact ⟨rfl, by rw [hU]; exact hR, va_K.moved hW.alike hK, hXt.warm hW⟩
  · simp
  · rw [x_catsum]
    exact (show 2 * 0 + (st.map xcat).sum ≤ 8 by have := hrm.2.2; omega)
/-- a constructor, its own or a nest mate's -/
theorem X.callI {M' : xM} {idx a N : Nat} {vs : List xV} {st0 : List xV} (d : decode M.2.1 pc = .ok (.invokespecial idx, 3)) (hst : st0 = vs.reverse ++ vR a :: st) (hM : xOKM M' N) (hN : vs.length = N) (hw : Cond.methodLink M.1.cls idx M'.1 ∈ xT) (hi : Cond.instanceMethod M'.1 ∈ xT) (hnm : M'.1.name = "<init>") (hret : M'.2.2.2.1 = none)
    (hrm : xRm M M' k n st) (hlen : 1 + (vs.map xcat).sum ≤ M'.2.2.1) (K : X M' 0 (xargs 0 (vR a :: vs)) [] sh ν μ 0 0 (fun v sh' ν' μ' => X M (pc + 3) ls (v.toList ++ st) sh' ν' μ' (k + M'.2.2.2.2.cells) (n + M'.2.2.2.2.slots) Q)) : X M pc ls st0 sh ν μ k n Q := by
  subst hst
  intro D cy base p l e s m args below meth c Z hC hZ H locs lsA hR hS hl okl oks
  obtain ⟨okv, ok2⟩ := x_oks_split oks
  have oka : ∀ v ∈ vR a :: vs, xok sh.length v := x_c0 (x_h ok2) okv
  have hmet := x_met (l := l) (D := D) (cy := cy) (base := base) (n := N) hM (vs := vR a :: vs) hlen oka K
  obtain ⟨hx, hb, hr, hml, hown, hts, hK, hbase, hlk, hnm2, hXt⟩ := hC
  have hMc : Cond.code M'.1 M'.2.1 M'.2.2.1 none ∈ xT := by rw [← hret]; exact hM.1
  refine x_back (M' := M') (k := k) (n := n) (sh := sh) (st0 := vs.reverse ++ vR a :: st) ⟨hx, hb, hr, hml, hown, hts, hK, hbase, hlk, hnm2, hXt⟩ hZ hS hl okl (x_t ok2) hR.1 (va_runI (As := vs.map (xtr base)) (b := base + a) (Ts := xT) (bytes := M'.2.1) (maxL := M'.2.2.1) ⟨hx, hb, hml, hown, hts⟩ hmet ⟨by rw [← hret]; exact callB_of N hts (xws_good hM) rfl rfl rfl (hts _ hM.2.1) (hts _ hw) hM.2.2.2 hrm.1, hnm, hts _ hi⟩ ⟨x_blind, ?_⟩ rfl (by rw [List.length_map]; exact hN) hl.1 ?_ ?_ d hrm.2.1)
  · intro U hU hW
    exact ⟨rfl, by rw [hU]; exact hR, va_K.moved hW.alike hK, hXt.warm hW⟩
  · simp [xtr]
  · rw [x_catsum]
    exact (show 2 * 0 + (st.map xcat).sum ≤ 8 by have := hrm.2.2; omega)
theorem X.callIN {M' : xM} {idx a N : Nat} {host : String} {vs : List xV} {st0 : List xV} (d : decode M.2.1 pc = .ok (.invokespecial idx, 3)) (hst : st0 = vs.reverse ++ vR a :: st) (hM : xOKM M' N) (hN : vs.length = N) (hw : (M.1.cls, idx, M'.1, host) ∈ xNest) (hi : Cond.instanceMethod M'.1 ∈ xT) (hnm : M'.1.name = "<init>") (hret : M'.2.2.2.1 = none)
    (hrm : xRm M M' k n st) (hlen : 1 + (vs.map xcat).sum ≤ M'.2.2.1) (K : X M' 0 (xargs 0 (vR a :: vs)) [] sh ν μ 0 0 (fun v sh' ν' μ' => X M (pc + 3) ls (v.toList ++ st) sh' ν' μ' (k + M'.2.2.2.2.cells) (n + M'.2.2.2.2.slots) Q)) : X M pc ls st0 sh ν μ k n Q := by
  subst hst
  intro D cy base p l e s m args below meth c Z hC hZ H locs lsA hR hS hl okl oks
  obtain ⟨okv, ok2⟩ := x_oks_split oks
  have oka : ∀ v ∈ vR a :: vs, xok sh.length v := x_c0 (x_h ok2) okv
  have hmet := x_met (l := l) (D := D) (cy := cy) (base := base) (n := N) hM (vs := vR a :: vs) hlen oka K
  obtain ⟨hx, hb, hr, hml, hown, hts, hK, hbase, hlk, hnm2, hXt⟩ := hC
  refine x_back (M' := M') (k := k) (n := n) (sh := sh) (st0 := vs.reverse ++ vR a :: st) ⟨hx, hb, hr, hml, hown, hts, hK, hbase, hlk, hnm2, hXt⟩ hZ hS hl okl (x_t ok2) hR.1 (va_runIN (As := vs.map (xtr base)) (b := base + a) (Ts := xT) (bytes := M'.2.1) (maxL := M'.2.2.1) ⟨hx, hb, hml, hown, hts⟩ hmet ⟨by rw [← hret]; exact x_cn (Ts := []) hts hM hXt hw hrm.1, hnm, hts _ hi⟩ ⟨x_blind, ?_⟩ rfl (by rw [List.length_map]; exact hN) hl.1 ?_ ?_ d hrm.2.1)
  · intro U hU hW
    exact ⟨rfl, by rw [hU]; exact hR, va_K.moved hW.alike hK, hXt.warm hW⟩
  · simp [xtr]
  · rw [x_catsum]
    exact (show 2 * 0 + (st.map xcat).sum ≤ 8 by have := hrm.2.2; omega)
end XR
