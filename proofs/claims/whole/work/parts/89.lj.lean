/-! the law's own frame: the judgement beside X; the script lies below the world -/
abbrev mL : xM := (⟨RL, "law", "([I)Z"⟩, code, 4, some .boolean, room_1)
abbrev LX : Type := (va_G × (Nat → ClassId) × Program × Launch × Env × State) × (MethodId × List Frame × Method × Code) × (Nat × Nat × (Nat → Int32))
abbrev LX.D (G : LX) : va_G := G.1.1
abbrev LX.cy (G : LX) : Nat → ClassId := G.1.2.1
abbrev LX.p (G : LX) : Program := G.1.2.2.1
abbrev LX.l (G : LX) : Launch := G.1.2.2.2.1
abbrev LX.e (G : LX) : Env := G.1.2.2.2.2.1
abbrev LX.s (G : LX) : State := G.1.2.2.2.2.2
abbrev LX.m (G : LX) : MethodId := G.2.1.1
abbrev LX.below (G : LX) : List Frame := G.2.1.2.1
abbrev LX.meth (G : LX) : Method := G.2.1.2.2.1
abbrev LX.c (G : LX) : Code := G.2.1.2.2.2
abbrev LX.b (G : LX) : Nat := G.2.2.1
abbrev LX.L (G : LX) : Nat := G.2.2.2.1
abbrev LX.xs (G : LX) : Nat → Int32 := G.2.2.2.2
def lC (G : LX) : Prop := G.p.tables.exec = Jvm.exec ∧ G.c.code = code ∧ G.meth.sig.returnType = ret ∧ G.c.maxLocals = 4 ∧ G.s.vm.findClass RL = some G.m.cls ∧ (∀ w ∈ xT, w.before #[Value.ref G.b] G.s = true) ∧ va_K G.D vwCl (xtys G.cy) G.s ∧ G.meth.locks = false ∧ xXt G.s ∧ va_X G.b G.L G.xs G.s G.s.heap ∧ G.b < G.s.heap.size
def LJ (G : LX) (pc : Nat) (ls : List (Nat × xV)) (st : List xV) (sh : List (Nat × Nat)) (ν : Nat → Nat → Option Nat) (μ : Nat → Nat → Int) (k n : Nat) : Prop :=
  ∀ (H : Heap) (locs : List Loc) (lsA : Array Slot), xRep G.D G.cy G.s.heap.size sh ν μ H → va_S (fun q : Nat => G.s.heap.size ≤ q) G.s.heap H locs → lv_has lsA 4 ((0, .ref G.b) :: ls.map fun q => (q.1, xtr G.s.heap.size q.2)) → (∀ q ∈ ls, xok sh.length q.2) → (∀ v ∈ st, xok sh.length v) →
    W G.p G.l G.e room_1 G.s G.m #[Value.ref G.b] G.below G.meth G.c H locs k n (lw_Z G.below #[Value.ref G.b] G.s) (F0 G.m pc lsA (st.map (xtr G.s.heap.size)))
section LR
variable {G : LX} {pc : Nat} {ls : List (Nat × xV)} {st : List xV} {sh : List (Nat × Nat)} {ν : Nat → Nat → Option Nat} {μ : Nat → Nat → Int} {k n : Nat}
theorem LJ.sub {ls' : List (Nat × xV)} (h : ∀ q ∈ ls', q ∈ ls) (K : LJ G pc ls' st sh ν μ k n) : LJ G pc ls st sh ν μ k n := by
  intro H locs lsA hR hS hl okl oks
  refine K H locs lsA hR hS ⟨hl.1, hl.2.1, fun q hq => ?_⟩ (fun q hq => okl q (h q hq)) oks
  rcases List.mem_cons.mp hq with e | e
  · exact hl.2.2 _ (by rw [e]; exact List.mem_cons_self)
  · obtain ⟨r, hr, rfl⟩ := List.mem_map.mp e
    exact hl.2.2 _ (List.mem_cons_of_mem _ (List.mem_map.mpr ⟨r, h r hr, rfl⟩))
theorem LJ.ok (K : (∀ q ∈ ls, xok sh.length q.2) → (∀ v ∈ st, xok sh.length v) → LJ G pc ls st sh ν μ k n) : LJ G pc ls st sh ν μ k n := by
  intro H locs lsA hR hS hl okl oks
  exact K okl oks H locs lsA hR hS hl okl oks
theorem LJ.goto {off : Int} {tgt : Nat} (hC : lC G) (d : decode code pc = .ok (.goto off, 3)) (ht : (pc : Int) + off = (tgt : Int)) (K : LJ G tgt ls st sh ν μ k n) : LJ G pc ls st sh ν μ k n := by
  intro H locs lsA hR hS hl okl oks
  exact lv_goto hC.1 hC.2.1 d ht (K H locs lsA hR hS hl okl oks)
theorem LJ.iconst {x : Int} (hC : lC G) (d : decode code pc = .ok (.iconst x, 1)) (hx : xi32 x) (K : LJ G (pc + 1) ls (vI x :: st) sh ν μ k n) : LJ G pc ls st sh ν μ k n := by
  intro H locs lsA hR hS hl okl oks
  exact lv_iconst hC.1 hC.2.1 d rfl (K H locs lsA hR hS hl okl (x_cI hx oks))
theorem LJ.iand31 {a : Int} (hC : lC G) (d : decode code pc = .ok (.bipush 31, 2)) (d2 : decode code (pc + 2) = .ok (.iand, 1)) (K : LJ G (pc + 2 + 1) ls (vI (xand a 31) :: st) sh ν μ k n) : LJ G pc ls (vI a :: st) sh ν μ k n := by
  intro H locs lsA hR hS hl okl oks
  refine lv_bipush (v := Int32.ofInt 31) hC.1 hC.2.1 d rfl (lv_iand hC.1 hC.2.1 d2 ?_)
  have W := K H locs lsA hR hS hl okl (x_cI (x32_r _) (x_t oks))
  simp only [List.map_cons, xtr, xand, Int32.ofInt_toInt] at W
  exact W
theorem LJ.lcmp {a b : Int} (hC : lC G) (d : decode code pc = .ok (.lcmp, 1)) (K : LJ G (pc + 1) ls (vI (xlcmp a b) :: st) sh ν μ k n) : LJ G pc ls (vL b :: vL a :: st) sh ν μ k n := by
  intro H locs lsA hR hS hl okl oks
  exact W.lcmp hC.1 hC.2.1 d (by rw [x_lcmp (x_hL (x_t oks)) (x_hL oks)]; exact K H locs lsA hR hS hl okl (x_cI (xlcmp_r _ _) (x_t (x_t oks))))
theorem LJ.dup {v : xV} (hC : lC G) (d : decode code pc = .ok (.dup, 1)) (hc : xcat v = 1) (K : LJ G (pc + 1) ls (v :: v :: st) sh ν μ k n) : LJ G pc ls (v :: st) sh ν μ k n := by
  intro H locs lsA hR hS hl okl oks
  exact lv_dup hC.1 hC.2.1 d (by rw [xtr_cat]; exact hc) (K H locs lsA hR hS hl okl (x_c0 (x_h oks) oks))
theorem l_lat {lsA : Array Slot} {G : LX} {i : Nat} {v : xV} (hl : lv_has lsA 4 ((0, .ref G.b) :: ls.map fun q => (q.1, xtr G.s.heap.size q.2))) (j : Nat) (hj : ls[j]? = some (i, v)) : lsA[i]? = some (.val (xtr G.s.heap.size v)) :=
  lv_at hl (j + 1) (by rw [List.getElem?_cons_succ, List.getElem?_map, hj]; rfl)
theorem LJ.iload3 {x : Int} (j : Nat) (hC : lC G) (d : decode code pc = .ok (.iload_n 3, 1)) (hj : ls[j]? = some (3, vI x)) (K : LJ G (pc + 1) ls (vI x :: st) sh ν μ k n) : LJ G pc ls st sh ν μ k n := by
  intro H locs lsA hR hS hl okl oks
  exact lv_iload_n (i := 3) hC.1 hC.2.1 d rfl (l_lat hl j hj) (K H locs lsA hR hS hl okl (x_c0 (v := vI x) (okl _ (List.mem_of_getElem? hj)) oks))
theorem LJ.aload_n {i : Nat} {x : Nat} {f : Fin 4} (j : Nat) (hC : lC G) (d : decode code pc = .ok (.aload_n f, 1)) (hi : (f : Nat) = i) (hj : ls[j]? = some (i, vR x)) (K : LJ G (pc + 1) ls (vR x :: st) sh ν μ k n) : LJ G pc ls st sh ν μ k n := by
  intro H locs lsA hR hS hl okl oks
  exact lv_aload_n hC.1 hC.2.1 d hi (l_lat hl j hj) (K H locs lsA hR hS hl okl (x_c0 (v := vR x) (okl _ (List.mem_of_getElem? hj)) oks))
theorem LJ.arg {x : Int} {z y : Int} (j : Nat) (hC : lC G) (d0 : decode code pc = .ok (.aload_n 0, 1)) (d1 : decode code (pc + 1) = .ok (.iload_n 3, 1)) (d2 : decode code (pc + 2) = .ok (.iconst z, 1)) (d3 : decode code (pc + 3) = .ok (.iadd, 1)) (d4 : decode code (pc + 4) = .ok (.iaload, 1)) (hz : xi32 z) (hj : ls[j]? = some (3, vI x)) (hx : 0 ≤ x ∧ 0 ≤ z ∧ x + z < G.L) (hL : G.L ≤ 3072) (hy : y = (G.xs (x + z).toNat).toInt) (K : LJ G (pc + 5) ls (vI y :: st) sh ν μ k n) : LJ G pc ls st sh ν μ k n := by
  intro H locs lsA hR hS hl okl oks
  subst hy
  have e : Int32.ofInt x + Int32.ofInt z = Int32.ofInt (x + z) := by rw [x32_add, w32_id (by omega) (by omega)]
  have hr : xi32 (x + z) := by unfold xi32; omega
  have e1 : (Int32.ofInt (x + z)).toNatClampNeg = (x + z).toNat := by rw [← Int32.toNat_toInt, x32_to hr]
  have hin : vp_in (Int32.ofInt (x + z)) G.L := by
    intro h
    rcases h with h | h
    · exact absurd ((x32_lt hr xi32_0).mp h) (by omega)
    · rw [e1] at h; omega
  refine lv_aload_n (i := 0) hC.1 hC.2.1 d0 rfl (lv_at hl 0 rfl) ?_
  refine lv_iload_n (i := 3) hC.1 hC.2.1 d1 rfl (l_lat hl j hj) ?_
  refine lv_iconst (v := Int32.ofInt z) hC.1 hC.2.1 d2 rfl ?_
  refine lv_iadd hC.1 hC.2.1 d3 ?_
  rw [e]
  refine va_sld hC.1 hC.2.1 hC.2.2.2.2.2.2.2.2.2.1 hC.2.2.2.2.2.2.2.2.2.2 (Nat.not_le.mpr hC.2.2.2.2.2.2.2.2.2.2) hS hin d4 ?_
  rw [e1]
  have W := K H locs lsA hR hS hl okl (x_c0 (v := vI (G.xs (x + z).toNat).toInt) (x32_r _) oks)
  simp only [List.map_cons, xtr, Int32.ofInt_toInt] at W
  exact W
theorem LJ.arg0 {x : Int} {y : Int} (j : Nat) (hC : lC G) (d0 : decode code pc = .ok (.aload_n 0, 1)) (d1 : decode code (pc + 1) = .ok (.iload_n 3, 1)) (d4 : decode code (pc + 2) = .ok (.iaload, 1)) (hj : ls[j]? = some (3, vI x)) (hx : 0 ≤ x ∧ x < G.L) (hL : G.L ≤ 3072) (hy : y = (G.xs x.toNat).toInt) (K : LJ G (pc + 3) ls (vI y :: st) sh ν μ k n) : LJ G pc ls st sh ν μ k n := by
  intro H locs lsA hR hS hl okl oks
  subst hy
  have hr : xi32 x := by unfold xi32; omega
  have e1 : (Int32.ofInt x).toNatClampNeg = x.toNat := by rw [← Int32.toNat_toInt, x32_to hr]
  have hin : vp_in (Int32.ofInt x) G.L := by
    intro h
    rcases h with h | h
    · exact absurd ((x32_lt hr xi32_0).mp h) (by omega)
    · rw [e1] at h; omega
  refine lv_aload_n (i := 0) hC.1 hC.2.1 d0 rfl (lv_at hl 0 rfl) ?_
  refine lv_iload_n (i := 3) hC.1 hC.2.1 d1 rfl (l_lat hl j hj) ?_
  refine va_sld hC.1 hC.2.1 hC.2.2.2.2.2.2.2.2.2.1 hC.2.2.2.2.2.2.2.2.2.2 (Nat.not_le.mpr hC.2.2.2.2.2.2.2.2.2.2) hS hin d4 ?_
  rw [e1]
  have W := K H locs lsA hR hS hl okl (x_c0 (v := vI (G.xs x.toNat).toInt) (x32_r _) oks)
  simp only [List.map_cons, xtr, Int32.ofInt_toInt] at W
  exact W
/-- an argument that is a boolean -/
theorem LJ.flag {x : Int} {o1 o2 : Int} (tgt : Nat) (hC : lC G) (d0 : decode code pc = .ok (.ifCond .eq o1, 3)) (d1 : decode code (pc + 3) = .ok (.iconst 1, 1)) (d2 : decode code (pc + 4) = .ok (.goto o2, 3)) (d3 : decode code (pc + 7) = .ok (.iconst 0, 1)) (h1 : o1 = 7) (h2 : o2 = 4) (ht : pc + 8 = tgt) (K : LJ G tgt ls (vI (if x = 0 then 0 else 1) :: st) sh ν μ k n) : LJ G pc ls (vI x :: st) sh ν μ k n := by
  intro H locs lsA hR hS hl okl oks
  subst ht; subst h1; subst h2
  have hx := x_hI oks
  refine lv_if_eq (tgt := pc + 7) hC.1 hC.2.1 d0 (by omega) (fun h => ?_) (fun h => ?_)
  · have e : x = 0 := (x32_eq hx xi32_0).mp h
    rw [if_pos e] at K
    exact lv_iconst (v := Int32.ofInt 0) hC.1 hC.2.1 d3 rfl (K H locs lsA hR hS hl okl (x_cI xi32_0 (x_t oks)))
  · have e : x ≠ 0 := fun q => h ((x32_eq hx xi32_0).mpr q)
    rw [if_neg e] at K
    refine lv_iconst (v := Int32.ofInt 1) hC.1 hC.2.1 d1 rfl ?_
    exact lv_goto (tgt := pc + 8) hC.1 hC.2.1 d2 (by omega) (K H locs lsA hR hS hl okl (x_cI (by unfold xi32; omega) (x_t oks)))
theorem LJ.same {x : Int} {off : Int} (tgt : Nat) (hC : lC G) (d : decode code pc = .ok (.if_icmp .eq off, 3)) (ht : (pc : Int) + off = (tgt : Int)) (K : LJ G tgt ls st sh ν μ k n) : LJ G pc ls (vI x :: vI x :: st) sh ν μ k n := by
  intro H locs lsA hR hS hl okl oks
  exact lv_icmp_eq hC.1 hC.2.1 d ht (fun h => K H locs lsA hR hS hl okl (x_t (x_t oks))) (fun h => absurd rfl h)
theorem LJ.sameL {x : Int} {off : Int} (tgt : Nat) (hC : lC G) (d0 : decode code pc = .ok (.lcmp, 1)) (d : decode code (pc + 1) = .ok (.ifCond .eq off, 3)) (ht : ((pc + 1 : Nat) : Int) + off = (tgt : Int)) (K : LJ G tgt ls st sh ν μ k n) : LJ G pc ls (vL x :: vL x :: st) sh ν μ k n := by
  refine LJ.lcmp hC d0 ?_
  have e : xlcmp x x = 0 := by unfold xlcmp; rw [if_neg (by omega), if_pos rfl]
  rw [e]
  intro H locs lsA hR hS hl okl oks
  exact lv_if_eq hC.1 hC.2.1 d ht (fun h => K H locs lsA hR hS hl okl (x_t oks)) (fun h => absurd rfl h)
theorem LJ.tsIn {x : Int} {dflt lo hi : Int} {offs : Array Int} {len : Nat} {off : Int} (tgt : Nat) (hC : lC G) (d : decode code pc = .ok (.tableswitch dflt lo hi offs, len)) (h1 : lo ≤ x) (h2 : x ≤ hi) (ho : offs[(x - lo).toNat]? = some off) (ht : (pc : Int) + off = (tgt : Int)) (K : LJ G tgt ls st sh ν μ k n) : LJ G pc ls (vI x :: st) sh ν μ k n := by
  intro H locs lsA hR hS hl okl oks
  have hx := x32_to (x_hI oks)
  exact lv_tableIn hC.1 hC.2.1 d (by rw [hx]; omega) (by rw [hx]; omega) (by rw [hx]; exact ho) ht (K H locs lsA hR hS hl okl (x_t oks))
theorem LJ.tsOut {x : Int} {dflt lo hi : Int} {offs : Array Int} {len : Nat} (tgt : Nat) (hC : lC G) (d : decode code pc = .ok (.tableswitch dflt lo hi offs, len)) (h : x < lo ∨ hi < x) (ht : (pc : Int) + dflt = (tgt : Int)) (K : LJ G tgt ls st sh ν μ k n) : LJ G pc ls (vI x :: st) sh ν μ k n := by
  intro H locs lsA hR hS hl okl oks
  have hx := x32_to (x_hI oks)
  exact lv_tableOut hC.1 hC.2.1 d (by rw [hx]; omega) ht (K H locs lsA hR hS hl okl (x_t oks))
end LR
