/-! the law's own frame: calls, new objects, its loop's head and end -/
theorem l_back {G : LX} {M' : xM} {H : Heap} {locs : List Loc} {lsA : Array Slot} {pc : Nat} {ls : List (Nat × xV)} {st st0 : List xV} {a : Array Value} {sh : List (Nat × Nat)} {k n : Nat}
    (hS : va_S (fun q : Nat => G.s.heap.size ≤ q) G.s.heap H locs) (hl : lv_has lsA 4 ((0, .ref G.b) :: ls.map fun q => (q.1, xtr G.s.heap.size q.2))) (okl : ∀ q ∈ ls, xok sh.length q.2) (oks : ∀ v ∈ st, xok sh.length v) (hsz : H.size = G.s.heap.size + sh.length)
    (hr : va_Run G.p G.l G.e room_1 G.s G.m #[Value.ref G.b] G.below G.meth G.c H locs k n M'.2.2.2.2.cells M'.2.2.2.2.slots (F0 G.m pc lsA (st0.map (xtr G.s.heap.size))) (st.map (xtr G.s.heap.size)) (xQc G.D G.cy G.s.heap.size (fun v sh' ν' μ' => LJ G (pc + 3) ls (v.toList ++ st) sh' ν' μ' (k + M'.2.2.2.2.cells) (n + M'.2.2.2.2.slots)) a) (fun q : Nat => G.s.heap.size ≤ q)) :
    W G.p G.l G.e room_1 G.s G.m #[Value.ref G.b] G.below G.meth G.c H locs k n (lw_Z G.below #[Value.ref G.b] G.s) (F0 G.m pc lsA (st0.map (xtr G.s.heap.size))) := by
  intro T hT X1
  obtain ⟨v, st₀, t, T', L, h0, X', hL, e1, e2, ⟨v', sh', ν', μ', hv, hK, hokv, hR', hz, hkeep⟩, stp⟩ := hr T hT X1
  cases hv
  rw [h0] at hz hkeep
  have hR2 : xRep G.D G.cy G.s.heap.size sh' ν' μ' T'.heap := by rw [e1]; exact hR'
  have hlen : sh.length ≤ sh'.length := by
    have h1 := hR'.1
    omega
  have okm : ∀ v : xV, xok sh.length v → xok sh'.length v := by
    intro v hv
    rcases v with x | x | _ | x
    · exact hv
    · exact hv
    · exact hv
    · exact Nat.lt_of_lt_of_le hv hlen
  have hS' : va_S (fun q : Nat => G.s.heap.size ≤ q) G.s.heap T'.heap (locs ++ L) := ⟨Nat.le_trans hS.1 (by rw [e1]; exact hz), fun q h1 h2 => by rw [e1, hkeep q (Nat.lt_of_lt_of_le h1 hS.1) h2]; exact hS.2.1 q h1 h2, fun q hq => by
      rcases List.mem_append.mp hq with h | h
      · exact hS.2.2 q h
      · exact hL q h⟩
  obtain ⟨t2, a1, b1⟩ := hK T'.heap (locs ++ L) lsA hR2 hS' hl (fun q hq => okm _ (okl q hq)) (fun u hu => by
      rcases List.mem_append.mp hu with h | h
      · cases v' with
        | none => cases h
        | some w => rw [List.mem_singleton.mp h]; exact hokv w rfl
      · exact okm _ (oks u h)) T' rfl X'
  refine ⟨t2, stp t2 ?_, b1⟩
  rw [← x_toL] at a1
  exact a1
section LR
variable {G : LX} {pc : Nat} {ls : List (Nat × xV)} {st : List xV} {sh : List (Nat × Nat)} {ν : Nat → Nat → Option Nat} {μ : Nat → Nat → Int} {k n : Nat}
theorem LJ.callV {M' : xM} {idx ci a N : Nat} {vs : List xV} {st0 : List xV} (hC : lC G) (d : decode code pc = .ok (.invokevirtual idx, 3)) (hst : st0 = vs.reverse ++ vR a :: st) (hM : xOKM M' N) (hN : vs.length = N) (hw : Cond.methodLink RL idx M'.1 ∈ xT) (hi : Cond.instanceMethod M'.1 ∈ xT) (hse : Cond.selects M'.1.cls M'.1 M'.1 ∈ xT) (hs : sh[a]? = some (6, ci)) (hci : (vwCl[ci]?).map (·.1) = some M'.1.cls)
    (hrm : xRm mL M' k n st) (hlen : 1 + (vs.map xcat).sum ≤ M'.2.2.1) (K : X M' 0 (xargs 0 (vR a :: vs)) [] sh ν μ 0 0 (fun v sh' ν' μ' => LJ G (pc + 3) ls (v.toList ++ st) sh' ν' μ' (k + M'.2.2.2.2.cells) (n + M'.2.2.2.2.slots))) : LJ G pc ls st0 sh ν μ k n := by
  subst hst
  intro H locs lsA hR hS hl okl oks
  obtain ⟨okv, ok2⟩ := x_oks_split oks
  have oka : ∀ v ∈ vR a :: vs, xok sh.length v := x_c0 (x_h ok2) okv
  have hmet := x_met (l := G.l) (D := G.D) (cy := G.cy) (base := G.s.heap.size) (n := N) hM (vs := vR a :: vs) hlen oka K
  obtain ⟨hx, hb, hr, hml, hown, hts, hK, hlk, hXt, hX, hbl⟩ := hC
  have hPa := hR.2.1 a _ (xW_get hs)
  obtain ⟨r, h1, cell, q1, q2, q3, q4⟩ := hPa
  have hr0 : r.1 = M'.1.cls := by
    rw [h1] at hci
    exact Option.some.inj hci
  obtain ⟨hSl, hfc, -⟩ := hK.1 ci r h1
  refine l_back (M' := M') (k := k) (n := n) (sh := sh) (st0 := vs.reverse ++ vR a :: st) hS hl okl (x_t ok2) hR.1 (va_runV (As := vs.map (xtr G.s.heap.size)) (b := G.s.heap.size + a) (C := M'.1.cls) (Ts := xT) ⟨hx, hb, hml, hown, hts⟩ hmet ⟨callB_of N hts (xws_good hM) rfl rfl rfl (hts _ hM.2.1) (hts _ hw) hM.2.2.2 hrm.1, hts _ hi, hts _ hse⟩ ⟨x_blind, ⟨cell, q1, by rw [q3]; rfl, by rw [q2, ← hr0]; exact hfc⟩, ?_⟩ rfl (by rw [List.length_map]; exact hN) hl.1 ?_ ?_ d hrm.2.1)
  · intro U hU hW
    exact ⟨rfl, by rw [hU]; exact hR, va_K.moved hW.alike hK, hXt.warm hW⟩
  · simp [xtr]
  · rw [x_catsum]
    exact (show 2 * 0 + (st.map xcat).sum ≤ 8 by have := hrm.2.2; omega)
theorem LJ.callI {M' : xM} {idx a N : Nat} {vs : List xV} {st0 : List xV} (hC : lC G) (d : decode code pc = .ok (.invokespecial idx, 3)) (hst : st0 = vs.reverse ++ vR a :: st) (hM : xOKM M' N) (hN : vs.length = N) (hw : Cond.methodLink RL idx M'.1 ∈ xT) (hi : Cond.instanceMethod M'.1 ∈ xT) (hnm : M'.1.name = "<init>") (hret : M'.2.2.2.1 = none)
    (hrm : xRm mL M' k n st) (hlen : 1 + (vs.map xcat).sum ≤ M'.2.2.1) (K : X M' 0 (xargs 0 (vR a :: vs)) [] sh ν μ 0 0 (fun v sh' ν' μ' => LJ G (pc + 3) ls (v.toList ++ st) sh' ν' μ' (k + M'.2.2.2.2.cells) (n + M'.2.2.2.2.slots))) : LJ G pc ls st0 sh ν μ k n := by
  subst hst
  intro H locs lsA hR hS hl okl oks
  obtain ⟨okv, ok2⟩ := x_oks_split oks
  have oka : ∀ v ∈ vR a :: vs, xok sh.length v := x_c0 (x_h ok2) okv
  have hmet := x_met (l := G.l) (D := G.D) (cy := G.cy) (base := G.s.heap.size) (n := N) hM (vs := vR a :: vs) hlen oka K
  obtain ⟨hx, hb, hr, hml, hown, hts, hK, hlk, hXt, hX, hbl⟩ := hC
  have hMc : Cond.code M'.1 M'.2.1 M'.2.2.1 none ∈ xT := by rw [← hret]; exact hM.1
  refine l_back (M' := M') (k := k) (n := n) (sh := sh) (st0 := vs.reverse ++ vR a :: st) hS hl okl (x_t ok2) hR.1 (va_runI (As := vs.map (xtr G.s.heap.size)) (b := G.s.heap.size + a) (Ts := xT) (bytes := M'.2.1) (maxL := M'.2.2.1) ⟨hx, hb, hml, hown, hts⟩ hmet ⟨by rw [← hret]; exact callB_of N hts (xws_good hM) rfl rfl rfl (hts _ hM.2.1) (hts _ hw) hM.2.2.2 hrm.1, hnm, hts _ hi⟩ ⟨x_blind, ?_⟩ rfl (by rw [List.length_map]; exact hN) hl.1 ?_ ?_ d hrm.2.1)
  · intro U hU hW
    exact ⟨rfl, by rw [hU]; exact hR, va_K.moved hW.alike hK, hXt.warm hW⟩
  · simp [xtr]
  · rw [x_catsum]
    exact (show 2 * 0 + (st.map xcat).sum ≤ 8 by have := hrm.2.2; omega)
theorem LJ.new {idx ci : Nat} (hC : lC G) (d : decode code pc = .ok (.new idx, 3)) (hn : xNL RL idx ci) (hc : k + 1 ≤ room_1.cells) (hsl : n + xN ci ≤ room_1.slots) (K : LJ G (pc + 3) ls (vR sh.length :: st) (sh ++ [(6, ci)]) (zrr ν sh.length) (zr μ sh.length) (k + 1) (n + xN ci)) : LJ G pc ls st sh ν μ k n := by
  intro H locs lsA hR hS hl okl oks
  obtain ⟨C, T, N, hcl, hw1, hw2, hw3, hdf⟩ := hn
  have hts := hC.2.2.2.2.2.1
  have hKn := hC.2.2.2.2.2.2.1.1 ci _ hcl.1
  have hNe := hcl.2.1
  subst hNe
  refine W.newcK hC.1 hC.2.1 hC.2.2.2.2.1 (hts _ hw1) (hts _ hw2) (hts _ hw3) rfl d hc hsl hKn.2.1 hR.1 fun H1 kC hkC e1 z o1 => ?_
  have hlen : (sh ++ [(6, ci)]).length = sh.length + 1 := by simp
  refine K H1 locs lsA (x_push1 hR (by rw [z, hR.1]) (fun q hq => o1 q (by rw [← hR.1]; exact hq)) ?_) (va_S_mono hS (by rw [z, hR.1]; omega) (fun q hq => o1 q (by rw [← hR.1]; exact hq))) hl (fun q hq => x_okup (by rw [hlen]; omega) (okl q hq)) (x_c0 (show sh.length < _ by rw [hlen]; omega) fun v hv => x_okup (by rw [hlen]; omega) (oks v hv))
  refine ⟨_, hcl.1, (u_born (xfT ci) hts hcl.2.2.1 hKn hkC e1 hcl.2.2.2.1).to fun j hj => ?_⟩
  show defaultValue (xfT ci j) = ((List.range (xN ci)).map fun k => xF G.s.heap.size (xfT ci k) none 0).getD j .null
  rw [hdf j hj]
  simp [List.getD, List.getElem?_range hj, xF_0 G.s.heap.size]
theorem LJ.astore1 {a : Nat} (hC : lC G) (d : decode code pc = .ok (.astore_n 1, 1)) (K : LJ G (pc + 1) [(1, vR a)] st sh ν μ k n) : LJ G pc [] (vR a :: st) sh ν μ k n := by
  intro H locs lsA hR hS hl okl oks
  exact lv_astore_n (i := 1) (lv' := [(1, .ref (G.s.heap.size + a)), (0, .ref G.b)]) hC.1 hC.2.1 d rfl hl (by decide) rfl fun ls2 hl2 => K H locs ls2 hR hS (lv_sub hl2 [1, 0] rfl) (fun q hq => by rw [List.mem_singleton.mp hq]; exact x_h oks) (x_t oks)
theorem LJ.astore2 {a x : Nat} (hC : lC G) (d : decode code pc = .ok (.astore_n 2, 1)) (K : LJ G (pc + 1) [(2, vR a), (1, vR x)] st sh ν μ k n) : LJ G pc [(1, vR x)] (vR a :: st) sh ν μ k n := by
  intro H locs lsA hR hS hl okl oks
  exact lv_astore_n (i := 2) (lv' := [(2, .ref (G.s.heap.size + a)), (0, .ref G.b), (1, .ref (G.s.heap.size + x))]) hC.1 hC.2.1 d rfl hl (by decide) rfl fun ls2 hl2 => K H locs ls2 hR hS (lv_sub hl2 [1, 0, 2] rfl) (fun q hq => by
    rcases List.mem_cons.mp hq with e | e
    · rw [e]; exact x_h oks
    · exact okl q e) (x_t oks)
theorem LJ.istore3 {a x : Nat} {i : Int} (hC : lC G) (d : decode code pc = .ok (.istore_n 3, 1)) (K : LJ G (pc + 1) [(3, vI i), (2, vR a), (1, vR x)] st sh ν μ k n) : LJ G pc [(2, vR a), (1, vR x)] (vI i :: st) sh ν μ k n := by
  intro H locs lsA hR hS hl okl oks
  exact lv_istore_n (i := 3) (lv' := [(3, .int (Int32.ofInt i)), (0, .ref G.b), (2, .ref (G.s.heap.size + a)), (1, .ref (G.s.heap.size + x))]) hC.1 hC.2.1 d rfl hl (by decide) rfl fun ls2 hl2 => K H locs ls2 hR hS (lv_sub hl2 [1, 0, 2, 3] rfl) (fun q hq => by
    rcases List.mem_cons.mp hq with e | e
    · rw [e]; exact x_h oks
    · exact okl q e) (x_t oks)
theorem LJ.iinc3 {a x : Nat} {i y : Int} (hC : lC G) (d : decode code pc = .ok (.iinc 3 y, 3)) (K : LJ G (pc + 3) [(3, vI (w32 (i + y))), (2, vR a), (1, vR x)] st sh ν μ k n) : LJ G pc [(3, vI i), (2, vR a), (1, vR x)] st sh ν μ k n := by
  intro H locs lsA hR hS hl okl oks
  exact lv_iinc (k := 1) (v := Int32.ofInt (w32 (i + y))) (lv' := [(3, .int (Int32.ofInt (w32 (i + y)))), (0, .ref G.b), (2, .ref (G.s.heap.size + a)), (1, .ref (G.s.heap.size + x))]) hC.1 hC.2.1 d hl rfl (x32_add i y) (by decide) rfl fun ls2 hl2 => K H locs ls2 hR hS (lv_sub hl2 [1, 0, 2, 3] rfl) (fun q hq => by
    rcases List.mem_cons.mp hq with e | e
    · rw [e]; exact w32_r _
    · exact okl q (List.mem_cons_of_mem _ e)) oks
/-- the head of the law's loop: i against length - 6 -/
theorem LJ.head {ls : List (Nat × xV)} {x : Int} {off : Int} (j tgt : Nat) (hC : lC G) (hL : G.L ≤ 3072) (d0 : decode code pc = .ok (.iload_n 3, 1)) (d1 : decode code (pc + 1) = .ok (.aload_n 0, 1)) (d2 : decode code (pc + 2) = .ok (.arraylength, 1)) (d3 : decode code (pc + 3) = .ok (.bipush 6, 2)) (d4 : decode code (pc + 5) = .ok (.isub, 1)) (d5 : decode code (pc + 6) = .ok (.if_icmp .gt off, 3)) (ht : ((pc + 6 : Nat) : Int) + off = (tgt : Int)) (hj : ls[j]? = some (3, vI x)) (K : ((G.L : Int) - 6 < x → LJ G tgt ls st sh ν μ k n) ∧ (x ≤ (G.L : Int) - 6 → LJ G (pc + 9) ls st sh ν μ k n)) : LJ G pc ls st sh ν μ k n := by
  intro H locs lsA hR hS hl okl oks
  have hx : xi32 x := okl _ (List.mem_of_getElem? hj)
  have hy : xi32 ((G.L : Int) - 6) := by unfold xi32; omega
  have e : Int32.ofNat G.L - Int32.ofInt 6 = Int32.ofInt ((G.L : Int) - 6) := by
    rw [show Int32.ofNat G.L = Int32.ofInt (G.L : Int) from rfl, x32_sub, w32_id (by omega) (by omega)]
  refine lv_iload_n (i := 3) hC.1 hC.2.1 d0 rfl (l_lat hl j hj) ?_
  refine lv_aload_n (i := 0) hC.1 hC.2.1 d1 rfl (lv_at hl 0 rfl) ?_
  refine va_slen hC.1 hC.2.1 hC.2.2.2.2.2.2.2.2.2.1 hC.2.2.2.2.2.2.2.2.2.2 (Nat.not_le.mpr hC.2.2.2.2.2.2.2.2.2.2) hS d2 ?_
  refine lv_bipush (v := Int32.ofInt 6) hC.1 hC.2.1 d3 rfl ?_
  refine lv_isub hC.1 hC.2.1 d4 ?_
  rw [e]
  exact lv_icmp_gt hC.1 hC.2.1 d5 ht (fun h => K.1 ((x32_lt hy hx).mp h) H locs lsA hR hS hl okl oks) (fun h => K.2 (Int.not_lt.mp fun q => h ((x32_lt hy hx).mpr q)) H locs lsA hR hS hl okl oks)
theorem LJ.ret1 (hC : lC G) (hr : ret = some .boolean) (d0 : decode code pc = .ok (.iconst 1, 1)) (d1 : decode code (pc + 1) = .ok (.ireturn, 1)) (hk : k ≤ 600000) (hn : n ≤ 7302250) : LJ G pc ls [] sh ν μ k n := by
  intro H locs lsA hR hS hl okl oks
  refine lv_iconst (v := 1) hC.1 hC.2.1 d0 rfl ?_
  exact va_forget (fun q hq => hS.2.2 q hq) (W.widen hk hn (lw_ret hC.1 hC.2.1 hC.2.2.1 hC.2.2.2.2.2.2.2.1 d1))
end LR
