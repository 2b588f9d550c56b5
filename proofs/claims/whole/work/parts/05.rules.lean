/-! rules: variables, branches, memory, calls, ends -/
theorem xN_i {i : Int} {N : Nat} (h0 : 0 ≤ i) (h1 : i < N) (hr : xi32 i) : vp_in (Int32.ofInt i) N ∧ (Int32.ofInt i).toNatClampNeg = i.toNat := by
  refine ⟨vp_in_iff.mpr ?_, ?_⟩
  · rw [x32_to hr]; exact ⟨h0, h1⟩
  · rw [← Int32.toNat_toInt, x32_to hr]
def xflt (i : Nat) (ls : List (Nat × xV)) : List (Nat × xV) := ls.filter (fun q => !(q.1 == i) && !(q.1 + 1 == i && xcat q.2 == 2))
def xflL (i : Nat) (ls : List (Nat × xV)) : List (Nat × xV) := ls.filter (fun q => !(q.1 == i) && (!(q.1 == i + 1) && !(q.1 + 1 == i && xcat q.2 == 2)))
theorem xflt_map (base i : Nat) (ls : List (Nat × xV)) : (ls.map fun q => (q.1, xtr base q.2)).filter (fun q => !(q.1 == i) && !(q.1 + 1 == i && q.2.category == 2)) = (xflt i ls).map fun q => (q.1, xtr base q.2) := by
  unfold xflt
  rw [List.filter_map]
  congr 1
  apply List.filter_congr
  intro q _
  simp [Function.comp, xtr_cat]
theorem xflL_map (base i : Nat) (ls : List (Nat × xV)) : (ls.map fun q => (q.1, xtr base q.2)).filter (fun q => !(q.1 == i) && (!(q.1 == i + 1) && !(q.1 + 1 == i && q.2.category == 2))) = (xflL i ls).map fun q => (q.1, xtr base q.2) := by
  unfold xflL
  rw [List.filter_map]
  congr 1
  apply List.filter_congr
  intro q _
  simp [Function.comp, xtr_cat]
theorem xflt_ok {K i : Nat} {v : xV} {ls : List (Nat × xV)} (hv : xok K v) (h : ∀ q ∈ ls, xok K q.2) : ∀ q ∈ (i, v) :: xflt i ls, xok K q.2 := fun q hq => (List.mem_cons.mp hq).elim (fun e => by rw [e]; exact hv) (fun e => h q (List.mem_filter.mp e).1)
theorem xflL_ok {K i : Nat} {v : xV} {ls : List (Nat × xV)} (hv : xok K v) (h : ∀ q ∈ ls, xok K q.2) : ∀ q ∈ (i, v) :: xflL i ls, xok K q.2 := fun q hq => (List.mem_cons.mp hq).elim (fun e => by rw [e]; exact hv) (fun e => h q (List.mem_filter.mp e).1)
theorem x_lat {lsA : Array Slot} {nL base : Nat} {ls : List (Nat × xV)} (h : lv_has lsA nL (ls.map fun q => (q.1, xtr base q.2))) (j : Nat) {i : Nat} {v : xV} (hj : ls[j]? = some (i, v)) : lsA[i]? = some (.val (xtr base v)) := by
  refine lv_at h j ?_
  rw [List.getElem?_map, hj]
  rfl
section XR
variable {M : xM} {pc : Nat} {ls : List (Nat × xV)} {st : List xV} {sh : List (Nat × Nat)} {ν : Nat → Nat → Option Nat} {μ : Nat → Nat → Int} {k n : Nat} {Q : xQ}
theorem X.iload {i : Nat} {x : Int} (j : Nat) (d : decode M.2.1 pc = .ok (.iload i, 2)) (hj : ls[j]? = some (i, vI x)) (K : X M (pc + 2) ls (vI x :: st) sh ν μ k n Q) : X M pc ls st sh ν μ k n Q := by
  intro D cy base p l e s m args below meth c Z hC hZ H locs lsA hR hS hl okl oks
  exact lv_iload hC.1 hC.2.1 d (x_lat hl j hj) (K D cy base p l e s m args below meth c Z hC hZ H locs lsA hR hS hl okl (x_c0 (v := vI x) (okl _ (List.mem_of_getElem? hj)) oks))
theorem X.iload_n {i : Nat} {x : Int} {f : Fin 4} (j : Nat) (d : decode M.2.1 pc = .ok (.iload_n f, 1)) (hi : (f : Nat) = i) (hj : ls[j]? = some (i, vI x)) (K : X M (pc + 1) ls (vI x :: st) sh ν μ k n Q) : X M pc ls st sh ν μ k n Q := by
  intro D cy base p l e s m args below meth c Z hC hZ H locs lsA hR hS hl okl oks
  exact lv_iload_n hC.1 hC.2.1 d hi (x_lat hl j hj) (K D cy base p l e s m args below meth c Z hC hZ H locs lsA hR hS hl okl (x_c0 (v := vI x) (okl _ (List.mem_of_getElem? hj)) oks))
theorem X.lload {i : Nat} {x : Int} (j : Nat) (d : decode M.2.1 pc = .ok (.lload i, 2)) (hj : ls[j]? = some (i, vL x)) (K : X M (pc + 2) ls (vL x :: st) sh ν μ k n Q) : X M pc ls st sh ν μ k n Q := by
  intro D cy base p l e s m args below meth c Z hC hZ H locs lsA hR hS hl okl oks
  exact lv_lload hC.1 hC.2.1 d (x_lat hl j hj) (K D cy base p l e s m args below meth c Z hC hZ H locs lsA hR hS hl okl (x_c0 (v := vL x) (okl _ (List.mem_of_getElem? hj)) oks))
theorem X.lload_n {i : Nat} {x : Int} {f : Fin 4} (j : Nat) (d : decode M.2.1 pc = .ok (.lload_n f, 1)) (hi : (f : Nat) = i) (hj : ls[j]? = some (i, vL x)) (K : X M (pc + 1) ls (vL x :: st) sh ν μ k n Q) : X M pc ls st sh ν μ k n Q := by
  intro D cy base p l e s m args below meth c Z hC hZ H locs lsA hR hS hl okl oks
  exact lv_lload_n hC.1 hC.2.1 d hi (x_lat hl j hj) (K D cy base p l e s m args below meth c Z hC hZ H locs lsA hR hS hl okl (x_c0 (v := vL x) (okl _ (List.mem_of_getElem? hj)) oks))
theorem X.aload {i : Nat} {x : Nat} (j : Nat) (d : decode M.2.1 pc = .ok (.aload i, 2)) (hj : ls[j]? = some (i, vR x)) (K : X M (pc + 2) ls (vR x :: st) sh ν μ k n Q) : X M pc ls st sh ν μ k n Q := by
  intro D cy base p l e s m args below meth c Z hC hZ H locs lsA hR hS hl okl oks
  exact lv_aload hC.1 hC.2.1 d (x_lat hl j hj) (K D cy base p l e s m args below meth c Z hC hZ H locs lsA hR hS hl okl (x_c0 (v := vR x) (okl _ (List.mem_of_getElem? hj)) oks))
theorem X.aload_n {i : Nat} {x : Nat} {f : Fin 4} (j : Nat) (d : decode M.2.1 pc = .ok (.aload_n f, 1)) (hi : (f : Nat) = i) (hj : ls[j]? = some (i, vR x)) (K : X M (pc + 1) ls (vR x :: st) sh ν μ k n Q) : X M pc ls st sh ν μ k n Q := by
  intro D cy base p l e s m args below meth c Z hC hZ H locs lsA hR hS hl okl oks
  exact lv_aload_n hC.1 hC.2.1 d hi (x_lat hl j hj) (K D cy base p l e s m args below meth c Z hC hZ H locs lsA hR hS hl okl (x_c0 (v := vR x) (okl _ (List.mem_of_getElem? hj)) oks))
theorem X.istore {i : Nat} {x : Int} {ls' : List (Nat × xV)} (d : decode M.2.1 pc = .ok (.istore i, 2)) (hi : i < M.2.2.1) (hl' : (i, vI x) :: xflt i ls = ls') (K : X M (pc + 2) ls' st sh ν μ k n Q) : X M pc ls (vI x :: st) sh ν μ k n Q := by
  subst hl'
  intro D cy base p l e s m args below meth c Z hC hZ H locs lsA hR hS hl okl oks
  exact lv_istore hC.1 hC.2.1 d hl hi (by rw [xflt_map]; rfl) fun ls2 hl2 => K D cy base p l e s m args below meth c Z hC hZ H locs ls2 hR hS hl2 (xflt_ok (x_h oks) okl) (x_t oks)
theorem X.istore_n {i : Nat} {x : Int} {f : Fin 4} {ls' : List (Nat × xV)} (d : decode M.2.1 pc = .ok (.istore_n f, 1)) (hf : (f : Nat) = i) (hi : i < M.2.2.1) (hl' : (i, vI x) :: xflt i ls = ls') (K : X M (pc + 1) ls' st sh ν μ k n Q) : X M pc ls (vI x :: st) sh ν μ k n Q := by
  subst hl'
  intro D cy base p l e s m args below meth c Z hC hZ H locs lsA hR hS hl okl oks
  exact lv_istore_n hC.1 hC.2.1 d hf hl hi (by rw [xflt_map]; rfl) fun ls2 hl2 => K D cy base p l e s m args below meth c Z hC hZ H locs ls2 hR hS hl2 (xflt_ok (x_h oks) okl) (x_t oks)
theorem X.lstore {i : Nat} {x : Int} {ls' : List (Nat × xV)} (d : decode M.2.1 pc = .ok (.lstore i, 2)) (hi : i + 1 < M.2.2.1) (hl' : (i, vL x) :: xflL i ls = ls') (K : X M (pc + 2) ls' st sh ν μ k n Q) : X M pc ls (vL x :: st) sh ν μ k n Q := by
  subst hl'
  intro D cy base p l e s m args below meth c Z hC hZ H locs lsA hR hS hl okl oks
  exact lv_lstore hC.1 hC.2.1 d hl hi (by rw [xflL_map]; rfl) fun ls2 hl2 => K D cy base p l e s m args below meth c Z hC hZ H locs ls2 hR hS hl2 (xflL_ok (x_h oks) okl) (x_t oks)
theorem X.lstore_n {i : Nat} {x : Int} {f : Fin 4} {ls' : List (Nat × xV)} (d : decode M.2.1 pc = .ok (.lstore_n f, 1)) (hf : (f : Nat) = i) (hi : i + 1 < M.2.2.1) (hl' : (i, vL x) :: xflL i ls = ls') (K : X M (pc + 1) ls' st sh ν μ k n Q) : X M pc ls (vL x :: st) sh ν μ k n Q := by
  subst hl'
  intro D cy base p l e s m args below meth c Z hC hZ H locs lsA hR hS hl okl oks
  exact lv_lstore_n hC.1 hC.2.1 d hf hl hi (by rw [xflL_map]; rfl) fun ls2 hl2 => K D cy base p l e s m args below meth c Z hC hZ H locs ls2 hR hS hl2 (xflL_ok (x_h oks) okl) (x_t oks)
theorem X.astore {i : Nat} {x : Nat} {ls' : List (Nat × xV)} (d : decode M.2.1 pc = .ok (.astore i, 2)) (hi : i < M.2.2.1) (hl' : (i, vR x) :: xflt i ls = ls') (K : X M (pc + 2) ls' st sh ν μ k n Q) : X M pc ls (vR x :: st) sh ν μ k n Q := by
  subst hl'
  intro D cy base p l e s m args below meth c Z hC hZ H locs lsA hR hS hl okl oks
  exact lv_astore hC.1 hC.2.1 d hl hi (by rw [xflt_map]; rfl) fun ls2 hl2 => K D cy base p l e s m args below meth c Z hC hZ H locs ls2 hR hS hl2 (xflt_ok (x_h oks) okl) (x_t oks)
theorem X.astore_n {i : Nat} {x : Nat} {f : Fin 4} {ls' : List (Nat × xV)} (d : decode M.2.1 pc = .ok (.astore_n f, 1)) (hf : (f : Nat) = i) (hi : i < M.2.2.1) (hl' : (i, vR x) :: xflt i ls = ls') (K : X M (pc + 1) ls' st sh ν μ k n Q) : X M pc ls (vR x :: st) sh ν μ k n Q := by
  subst hl'
  intro D cy base p l e s m args below meth c Z hC hZ H locs lsA hR hS hl okl oks
  exact lv_astore_n hC.1 hC.2.1 d hf hl hi (by rw [xflt_map]; rfl) fun ls2 hl2 => K D cy base p l e s m args below meth c Z hC hZ H locs ls2 hR hS hl2 (xflt_ok (x_h oks) okl) (x_t oks)
theorem X.iinc {i : Nat} {x y : Int} {ls' : List (Nat × xV)} (j : Nat) (d : decode M.2.1 pc = .ok (.iinc i y, 3)) (hj : ls[j]? = some (i, vI x)) (hi : i < M.2.2.1) (hl' : (i, vI (w32 (x + y))) :: xflt i ls = ls') (K : X M (pc + 3) ls' st sh ν μ k n Q) : X M pc ls st sh ν μ k n Q := by
  subst hl'
  intro D cy base p l e s m args below meth c Z hC hZ H locs lsA hR hS hl okl oks
  exact lv_iinc (k := j) (v := Int32.ofInt (w32 (x + y))) hC.1 hC.2.1 d hl (by rw [List.getElem?_map, hj]; rfl) (x32_add x y) hi (by rw [xflt_map]; rfl) fun ls2 hl2 => K D cy base p l e s m args below meth c Z hC hZ H locs ls2 hR hS hl2 (xflt_ok (v := vI (w32 (x + y))) (w32_r _) okl) oks
theorem X.if_eq {x : Int} {off : Int} (tgt : Nat) (d : decode M.2.1 pc = .ok (.ifCond .eq off, 3)) (ht : (pc : Int) + off = (tgt : Int)) (K : (x = 0 → X M tgt ls st sh ν μ k n Q) ∧ (x ≠ 0 → X M (pc + 3) ls st sh ν μ k n Q)) : X M pc ls (vI x :: st) sh ν μ k n Q := by
  intro D cy base p l e s m args below meth c Z hC hZ H locs lsA hR hS hl okl oks
  have hx := x_hI oks
  exact lv_if_eq hC.1 hC.2.1 d ht (fun h => K.1 ((x32_eq hx xi32_0).mp h) D cy base p l e s m args below meth c Z hC hZ H locs lsA hR hS hl okl (x_t oks)) (fun h => K.2 (fun q => h ((x32_eq hx xi32_0).mpr q)) D cy base p l e s m args below meth c Z hC hZ H locs lsA hR hS hl okl (x_t oks))
theorem X.if_ne {x : Int} {off : Int} (tgt : Nat) (d : decode M.2.1 pc = .ok (.ifCond .ne off, 3)) (ht : (pc : Int) + off = (tgt : Int)) (K : (x ≠ 0 → X M tgt ls st sh ν μ k n Q) ∧ (x = 0 → X M (pc + 3) ls st sh ν μ k n Q)) : X M pc ls (vI x :: st) sh ν μ k n Q := by
  intro D cy base p l e s m args below meth c Z hC hZ H locs lsA hR hS hl okl oks
  have hx := x_hI oks
  exact lv_if_ne hC.1 hC.2.1 d ht (fun h => K.1 (fun q => h ((x32_eq hx xi32_0).mpr q)) D cy base p l e s m args below meth c Z hC hZ H locs lsA hR hS hl okl (x_t oks)) (fun h => K.2 ((x32_eq hx xi32_0).mp h) D cy base p l e s m args below meth c Z hC hZ H locs lsA hR hS hl okl (x_t oks))
theorem X.if_lt {x : Int} {off : Int} (tgt : Nat) (d : decode M.2.1 pc = .ok (.ifCond .lt off, 3)) (ht : (pc : Int) + off = (tgt : Int)) (K : (x < 0 → X M tgt ls st sh ν μ k n Q) ∧ (0 ≤ x → X M (pc + 3) ls st sh ν μ k n Q)) : X M pc ls (vI x :: st) sh ν μ k n Q := by
  intro D cy base p l e s m args below meth c Z hC hZ H locs lsA hR hS hl okl oks
  have hx := x_hI oks
  exact lv_if_lt hC.1 hC.2.1 d ht (fun h => K.1 ((x32_lt hx xi32_0).mp h) D cy base p l e s m args below meth c Z hC hZ H locs lsA hR hS hl okl (x_t oks)) (fun h => K.2 (Int.not_lt.mp fun q => h ((x32_lt hx xi32_0).mpr q)) D cy base p l e s m args below meth c Z hC hZ H locs lsA hR hS hl okl (x_t oks))
theorem X.if_ge {x : Int} {off : Int} (tgt : Nat) (d : decode M.2.1 pc = .ok (.ifCond .ge off, 3)) (ht : (pc : Int) + off = (tgt : Int)) (K : (0 ≤ x → X M tgt ls st sh ν μ k n Q) ∧ (x < 0 → X M (pc + 3) ls st sh ν μ k n Q)) : X M pc ls (vI x :: st) sh ν μ k n Q := by
  intro D cy base p l e s m args below meth c Z hC hZ H locs lsA hR hS hl okl oks
  have hx := x_hI oks
  exact lv_if_ge hC.1 hC.2.1 d ht (fun h => K.1 ((x32_le xi32_0 hx).mp h) D cy base p l e s m args below meth c Z hC hZ H locs lsA hR hS hl okl (x_t oks)) (fun h => K.2 (Int.not_le.mp fun q => h ((x32_le xi32_0 hx).mpr q)) D cy base p l e s m args below meth c Z hC hZ H locs lsA hR hS hl okl (x_t oks))
theorem X.if_gt {x : Int} {off : Int} (tgt : Nat) (d : decode M.2.1 pc = .ok (.ifCond .gt off, 3)) (ht : (pc : Int) + off = (tgt : Int)) (K : (0 < x → X M tgt ls st sh ν μ k n Q) ∧ (x ≤ 0 → X M (pc + 3) ls st sh ν μ k n Q)) : X M pc ls (vI x :: st) sh ν μ k n Q := by
  intro D cy base p l e s m args below meth c Z hC hZ H locs lsA hR hS hl okl oks
  have hx := x_hI oks
  exact lv_if_gt hC.1 hC.2.1 d ht (fun h => K.1 ((x32_lt xi32_0 hx).mp h) D cy base p l e s m args below meth c Z hC hZ H locs lsA hR hS hl okl (x_t oks)) (fun h => K.2 (Int.not_lt.mp fun q => h ((x32_lt xi32_0 hx).mpr q)) D cy base p l e s m args below meth c Z hC hZ H locs lsA hR hS hl okl (x_t oks))
theorem X.if_le {x : Int} {off : Int} (tgt : Nat) (d : decode M.2.1 pc = .ok (.ifCond .le off, 3)) (ht : (pc : Int) + off = (tgt : Int)) (K : (x ≤ 0 → X M tgt ls st sh ν μ k n Q) ∧ (0 < x → X M (pc + 3) ls st sh ν μ k n Q)) : X M pc ls (vI x :: st) sh ν μ k n Q := by
  intro D cy base p l e s m args below meth c Z hC hZ H locs lsA hR hS hl okl oks
  have hx := x_hI oks
  exact lv_if_le hC.1 hC.2.1 d ht (fun h => K.1 ((x32_le hx xi32_0).mp h) D cy base p l e s m args below meth c Z hC hZ H locs lsA hR hS hl okl (x_t oks)) (fun h => K.2 (Int.not_le.mp fun q => h ((x32_le hx xi32_0).mpr q)) D cy base p l e s m args below meth c Z hC hZ H locs lsA hR hS hl okl (x_t oks))
theorem X.icmp_eq {x y : Int} {off : Int} (tgt : Nat) (d : decode M.2.1 pc = .ok (.if_icmp .eq off, 3)) (ht : (pc : Int) + off = (tgt : Int)) (K : (x = y → X M tgt ls st sh ν μ k n Q) ∧ (x ≠ y → X M (pc + 3) ls st sh ν μ k n Q)) : X M pc ls (vI y :: vI x :: st) sh ν μ k n Q := by
  intro D cy base p l e s m args below meth c Z hC hZ H locs lsA hR hS hl okl oks
  have hx := x_hI (x_t oks)
  have hy := x_hI oks
  exact lv_icmp_eq hC.1 hC.2.1 d ht (fun h => K.1 ((x32_eq hx hy).mp h) D cy base p l e s m args below meth c Z hC hZ H locs lsA hR hS hl okl (x_t (x_t oks))) (fun h => K.2 (fun q => h ((x32_eq hx hy).mpr q)) D cy base p l e s m args below meth c Z hC hZ H locs lsA hR hS hl okl (x_t (x_t oks)))
theorem X.icmp_ne {x y : Int} {off : Int} (tgt : Nat) (d : decode M.2.1 pc = .ok (.if_icmp .ne off, 3)) (ht : (pc : Int) + off = (tgt : Int)) (K : (x ≠ y → X M tgt ls st sh ν μ k n Q) ∧ (x = y → X M (pc + 3) ls st sh ν μ k n Q)) : X M pc ls (vI y :: vI x :: st) sh ν μ k n Q := by
  intro D cy base p l e s m args below meth c Z hC hZ H locs lsA hR hS hl okl oks
  have hx := x_hI (x_t oks)
  have hy := x_hI oks
  exact lv_icmp_ne hC.1 hC.2.1 d ht (fun h => K.1 (fun q => h ((x32_eq hx hy).mpr q)) D cy base p l e s m args below meth c Z hC hZ H locs lsA hR hS hl okl (x_t (x_t oks))) (fun h => K.2 ((x32_eq hx hy).mp h) D cy base p l e s m args below meth c Z hC hZ H locs lsA hR hS hl okl (x_t (x_t oks)))
theorem X.icmp_lt {x y : Int} {off : Int} (tgt : Nat) (d : decode M.2.1 pc = .ok (.if_icmp .lt off, 3)) (ht : (pc : Int) + off = (tgt : Int)) (K : (x < y → X M tgt ls st sh ν μ k n Q) ∧ (y ≤ x → X M (pc + 3) ls st sh ν μ k n Q)) : X M pc ls (vI y :: vI x :: st) sh ν μ k n Q := by
  intro D cy base p l e s m args below meth c Z hC hZ H locs lsA hR hS hl okl oks
  have hx := x_hI (x_t oks)
  have hy := x_hI oks
  exact lv_icmp_lt hC.1 hC.2.1 d ht (fun h => K.1 ((x32_lt hx hy).mp h) D cy base p l e s m args below meth c Z hC hZ H locs lsA hR hS hl okl (x_t (x_t oks))) (fun h => K.2 (Int.not_lt.mp fun q => h ((x32_lt hx hy).mpr q)) D cy base p l e s m args below meth c Z hC hZ H locs lsA hR hS hl okl (x_t (x_t oks)))
theorem X.icmp_ge {x y : Int} {off : Int} (tgt : Nat) (d : decode M.2.1 pc = .ok (.if_icmp .ge off, 3)) (ht : (pc : Int) + off = (tgt : Int)) (K : (y ≤ x → X M tgt ls st sh ν μ k n Q) ∧ (x < y → X M (pc + 3) ls st sh ν μ k n Q)) : X M pc ls (vI y :: vI x :: st) sh ν μ k n Q := by
  intro D cy base p l e s m args below meth c Z hC hZ H locs lsA hR hS hl okl oks
  have hx := x_hI (x_t oks)
  have hy := x_hI oks
  exact lv_icmp_ge hC.1 hC.2.1 d ht (fun h => K.1 ((x32_le hy hx).mp h) D cy base p l e s m args below meth c Z hC hZ H locs lsA hR hS hl okl (x_t (x_t oks))) (fun h => K.2 (Int.not_le.mp fun q => h ((x32_le hy hx).mpr q)) D cy base p l e s m args below meth c Z hC hZ H locs lsA hR hS hl okl (x_t (x_t oks)))
theorem X.icmp_gt {x y : Int} {off : Int} (tgt : Nat) (d : decode M.2.1 pc = .ok (.if_icmp .gt off, 3)) (ht : (pc : Int) + off = (tgt : Int)) (K : (y < x → X M tgt ls st sh ν μ k n Q) ∧ (x ≤ y → X M (pc + 3) ls st sh ν μ k n Q)) : X M pc ls (vI y :: vI x :: st) sh ν μ k n Q := by
  intro D cy base p l e s m args below meth c Z hC hZ H locs lsA hR hS hl okl oks
  have hx := x_hI (x_t oks)
  have hy := x_hI oks
  exact lv_icmp_gt hC.1 hC.2.1 d ht (fun h => K.1 ((x32_lt hy hx).mp h) D cy base p l e s m args below meth c Z hC hZ H locs lsA hR hS hl okl (x_t (x_t oks))) (fun h => K.2 (Int.not_lt.mp fun q => h ((x32_lt hy hx).mpr q)) D cy base p l e s m args below meth c Z hC hZ H locs lsA hR hS hl okl (x_t (x_t oks)))
theorem X.icmp_le {x y : Int} {off : Int} (tgt : Nat) (d : decode M.2.1 pc = .ok (.if_icmp .le off, 3)) (ht : (pc : Int) + off = (tgt : Int)) (K : (x ≤ y → X M tgt ls st sh ν μ k n Q) ∧ (y < x → X M (pc + 3) ls st sh ν μ k n Q)) : X M pc ls (vI y :: vI x :: st) sh ν μ k n Q := by
  intro D cy base p l e s m args below meth c Z hC hZ H locs lsA hR hS hl okl oks
  have hx := x_hI (x_t oks)
  have hy := x_hI oks
  exact lv_icmp_le hC.1 hC.2.1 d ht (fun h => K.1 ((x32_le hx hy).mp h) D cy base p l e s m args below meth c Z hC hZ H locs lsA hR hS hl okl (x_t (x_t oks))) (fun h => K.2 (Int.not_le.mp fun q => h ((x32_le hx hy).mpr q)) D cy base p l e s m args below meth c Z hC hZ H locs lsA hR hS hl okl (x_t (x_t oks)))
theorem X.tsIn {x : Int} {dflt lo hi : Int} {offs : Array Int} {len : Nat} {off : Int} (tgt : Nat) (d : decode M.2.1 pc = .ok (.tableswitch dflt lo hi offs, len)) (h1 : lo ≤ x) (h2 : x ≤ hi) (ho : offs[(x - lo).toNat]? = some off) (ht : (pc : Int) + off = (tgt : Int)) (K : X M tgt ls st sh ν μ k n Q) : X M pc ls (vI x :: st) sh ν μ k n Q := by
  intro D cy base p l e s m args below meth c Z hC hZ H locs lsA hR hS hl okl oks
  have hx := x32_to (x_hI oks)
  exact lv_tableIn hC.1 hC.2.1 d (by rw [hx]; omega) (by rw [hx]; omega) (by rw [hx]; exact ho) ht (K D cy base p l e s m args below meth c Z hC hZ H locs lsA hR hS hl okl (x_t oks))
theorem X.tsOut {x : Int} {dflt lo hi : Int} {offs : Array Int} {len : Nat} (tgt : Nat) (d : decode M.2.1 pc = .ok (.tableswitch dflt lo hi offs, len)) (h : x < lo ∨ hi < x) (ht : (pc : Int) + dflt = (tgt : Int)) (K : X M tgt ls st sh ν μ k n Q) : X M pc ls (vI x :: st) sh ν μ k n Q := by
  intro D cy base p l e s m args below meth c Z hC hZ H locs lsA hR hS hl okl oks
  have hx := x32_to (x_hI oks)
  exact lv_tableOut hC.1 hC.2.1 d (by rw [hx]; exact h) ht (K D cy base p l e s m args below meth c Z hC hZ H locs lsA hR hS hl okl (x_t oks))
theorem X.iret {x : Int} (d : decode M.2.1 pc = .ok (.ireturn, 1)) (hr : M.2.2.2.1 = some .int) (hk : k ≤ M.2.2.2.2.cells) (hn : n ≤ M.2.2.2.2.slots) (hq : Q (some (vI x)) sh ν μ) : X M pc ls [vI x] sh ν μ k n Q := by
  intro D cy base p l e s m args below meth c Z hC hZ H locs lsA hR hS hl okl oks
  exact W.widen hk hn (hZ (some (vI x)) sh ν μ H locs pc lsA hq hR (fun w hw => by cases hw; exact x_h oks) hS ⟨d, Or.inl hr⟩)
theorem X.zret {x : Int} (d : decode M.2.1 pc = .ok (.ireturn, 1)) (hr : M.2.2.2.1 = some .boolean) (hx : x = 0 ∨ x = 1) (hk : k ≤ M.2.2.2.2.cells) (hn : n ≤ M.2.2.2.2.slots) (hq : Q (some (vI x)) sh ν μ) : X M pc ls [vI x] sh ν μ k n Q := by
  intro D cy base p l e s m args below meth c Z hC hZ H locs lsA hR hS hl okl oks
  exact W.widen hk hn (hZ (some (vI x)) sh ν μ H locs pc lsA hq hR (fun w hw => by cases hw; exact x_h oks) hS ⟨d, Or.inr ⟨hr, hx⟩⟩)
theorem X.lret {x : Int} (d : decode M.2.1 pc = .ok (.lreturn, 1)) (hr : M.2.2.2.1 = some .long) (hk : k ≤ M.2.2.2.2.cells) (hn : n ≤ M.2.2.2.2.slots) (hq : Q (some (vL x)) sh ν μ) : X M pc ls [vL x] sh ν μ k n Q := by
  intro D cy base p l e s m args below meth c Z hC hZ H locs lsA hR hS hl okl oks
  exact W.widen hk hn (hZ (some (vL x)) sh ν μ H locs pc lsA hq hR (fun w hw => by cases hw; exact x_h oks) hS ⟨d, hr⟩)
theorem X.vret (d : decode M.2.1 pc = .ok (.return_, 1)) (hr : M.2.2.2.1 = none) (hk : k ≤ M.2.2.2.2.cells) (hn : n ≤ M.2.2.2.2.slots) (hq : Q none sh ν μ) : X M pc ls [] sh ν μ k n Q := by
  intro D cy base p l e s m args below meth c Z hC hZ H locs lsA hR hS hl okl oks
  exact W.widen hk hn (hZ none sh ν μ H locs pc lsA hq hR (fun w hw => by cases hw) hS ⟨d, hr⟩)
end XR
