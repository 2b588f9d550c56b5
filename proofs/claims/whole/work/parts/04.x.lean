/-! THE JUDGEMENT OF THE PURE MACHINE, over the kit's W -/
/-- a method: its name, its bytes, its places for variables, its answer's type, its room -/
abbrev xM : Type := MethodName × ByteArray × Nat × Option FieldType × Room
def xT : List Cond := lw_tbl.filter goodWord
theorem x_in {i : Nat} {w : Cond} (h : lw_tbl[i]? = some w) (g : goodWord w = true) : w ∈ xT := List.mem_filter.mpr ⟨List.mem_of_getElem? h, g⟩
theorem xT_good : ∀ w ∈ xT, goodWord w = true := fun _ h => (List.mem_filter.mp h).2
/-- words of the tables that a call does not keep by themselves: links to a nest mate's own methods, arrays of objects -/
def xNest : List (String × Nat × MethodName × String) := [("HouseFronts$Grammar", 19, ⟨"HouseFronts$Parts", "<init>", "()V"⟩, "HouseFronts"), ("HouseFronts$Grammar", 28, ⟨"HouseFronts$Rule", "<init>", "()V"⟩, "HouseFronts"), ("HouseFronts$Rule", 11, ⟨"HouseFronts$Parts", "<init>", "()V"⟩, "HouseFronts"), ("HouseFronts", 18, ⟨"HouseFronts$Layout", "<init>", "()V"⟩, "HouseFronts"), ("HouseFronts", 25, ⟨"HouseFronts$Board", "<init>", "()V"⟩, "HouseFronts"), ("HouseFronts$Chart", 11, ⟨"HouseFronts$Knot", "<init>", "()V"⟩, "HouseFronts"), ("HouseFronts", 53, ⟨"HouseFronts$Front", "<init>", "()V"⟩, "HouseFronts"), ("HouseFronts$Rule", 50, ⟨"HouseFronts", "isWithin", "(III)Z"⟩, "HouseFronts"), ("HouseFronts$Chart", 75, ⟨"HouseFronts", "isName", "(I)Z"⟩, "HouseFronts")]
def xXt (s : State) : Prop := va_AO RX7 s ∧ (Cond.arrayOver (.array .int)).before #[] s = true ∧ ∀ q ∈ xNest, va_Nw (.methodLinkNest q.1 q.2.1 q.2.2.1 q.2.2.2) s
theorem xXt.warm {s U : State} (hW : s.WarmedH U.vm) (h : xXt s) : xXt U := ⟨h.1.moved hW.alike, arrayOver_alikeB hW.alike h.2.1, fun q hq => (h.2.2 q hq).warmM hW⟩
abbrev xQ : Type := Option xV → List (Nat × Nat) → (Nat → Nat → Option Nat) → (Nat → Nat → Int) → Prop
def xC (M : xM) (D : va_G) (cy : Nat → ClassId) (base : Nat) (p : Program) (s : State) (m : MethodId) (args : Array Value) (meth : Method) (c : Code) : Prop :=
  p.tables.exec = Jvm.exec ∧ c.code = M.2.1 ∧ meth.sig.returnType = M.2.2.2.1 ∧ c.maxLocals = M.2.2.1 ∧ s.vm.findClass M.1.cls = some m.cls ∧ (∀ w ∈ xT, w.before args s = true) ∧ va_K D vwCl (xtys cy) s ∧ base ≤ s.heap.size ∧ meth.locks = false ∧ meth.name = M.1.name ∧ xXt s
/-- the return instruction at pc gives v -/
def xRi (M : xM) (pc : Nat) (v : Option xV) : Prop := match v with
  | none => decode M.2.1 pc = .ok (.return_, 1) ∧ M.2.2.2.1 = none
  | some (.inl x) => decode M.2.1 pc = .ok (.ireturn, 1) ∧ (M.2.2.2.1 = some .int ∨ (M.2.2.2.1 = some .boolean ∧ (x = 0 ∨ x = 1)))
  | some (.inr (.inl _)) => decode M.2.1 pc = .ok (.lreturn, 1) ∧ M.2.2.2.1 = some .long
  | some (.inr (.inr _)) => False
def xZ (M : xM) (D : va_G) (cy : Nat → ClassId) (base : Nat) (Q : xQ) (p : Program) (l : Launch) (e : Env) (s : State) (m : MethodId) (args : Array Value) (below : List Frame) (meth : Method) (c : Code) (Z : State → Prop) : Prop :=
  ∀ (v : Option xV) (sh : List (Nat × Nat)) (ν : Nat → Nat → Option Nat) (μ : Nat → Nat → Int) (H : Heap) (locs : List Loc) (pc : Nat) (lsA : Array Slot), Q v sh ν μ → xRep D cy base sh ν μ H → (∀ w, v = some w → xok sh.length w) → va_S (fun q : Nat => base ≤ q) s.heap H locs → xRi M pc v →
    W p l e M.2.2.2.2 s m args below meth c H locs M.2.2.2.2.cells M.2.2.2.2.slots Z (F0 m pc lsA (v.toList.map (xtr base)))
/-- THE JUDGEMENT: from method M at pc, with these variables, this stack, this memory (and k cells of n slots made so far), the method ends, with Q -/
def X (M : xM) (pc : Nat) (ls : List (Nat × xV)) (st : List xV) (sh : List (Nat × Nat)) (ν : Nat → Nat → Option Nat) (μ : Nat → Nat → Int) (k n : Nat) (Q : xQ) : Prop :=
  ∀ (D : va_G) (cy : Nat → ClassId) (base : Nat) (p : Program) (l : Launch) (e : Env) (s : State) (m : MethodId) (args : Array Value) (below : List Frame) (meth : Method) (c : Code) (Z : State → Prop), xC M D cy base p s m args meth c → xZ M D cy base Q p l e s m args below meth c Z →
    ∀ (H : Heap) (locs : List Loc) (lsA : Array Slot), xRep D cy base sh ν μ H → va_S (fun q : Nat => base ≤ q) s.heap H locs → lv_has lsA M.2.2.1 (ls.map fun q => (q.1, xtr base q.2)) → (∀ q ∈ ls, xok sh.length q.2) → (∀ v ∈ st, xok sh.length v) →
      W p l e M.2.2.2.2 s m args below meth c H locs k n Z (F0 m pc lsA (st.map (xtr base)))
section XR
variable {M : xM} {pc : Nat} {ls : List (Nat × xV)} {st : List xV} {sh : List (Nat × Nat)} {ν : Nat → Nat → Option Nat} {μ : Nat → Nat → Int} {k n : Nat} {Q : xQ}
theorem X.eq {pc' : Nat} {ls' : List (Nat × xV)} {st' : List xV} (h1 : pc = pc') (h2 : ls = ls') (h3 : st = st') (K : X M pc' ls' st' sh ν μ k n Q) : X M pc ls st sh ν μ k n Q := by
  subst h1; subst h2; subst h3; exact K
theorem X.stq {st' : List xV} (h3 : st = st') (K : X M pc ls st' sh ν μ k n Q) : X M pc ls st sh ν μ k n Q := h3 ▸ K
theorem X.mu {μ' : Nat → Nat → Int} (h : μ = μ') (K : X M pc ls st sh ν μ' k n Q) : X M pc ls st sh ν μ k n Q := h ▸ K
/-- fewer variables, in another order -/
theorem X.sub {ls' : List (Nat × xV)} (h : ∀ q ∈ ls', q ∈ ls) (K : X M pc ls' st sh ν μ k n Q) : X M pc ls st sh ν μ k n Q := by
  intro D cy base p l e s m args below meth c Z hC hZ H locs lsA hR hS hl okl oks
  refine K D cy base p l e s m args below meth c Z hC hZ H locs lsA hR hS ⟨hl.1, hl.2.1, fun q hq => ?_⟩ (fun q hq => okl q (h q hq)) oks
  obtain ⟨r, hr, rfl⟩ := List.mem_map.mp hq
  exact hl.2.2 _ (List.mem_map.mpr ⟨r, h r hr, rfl⟩)
/-- what the pure state's numbers are known to be -/
theorem X.ok (K : (∀ q ∈ ls, xok sh.length q.2) → (∀ v ∈ st, xok sh.length v) → xOKh sh ν μ → X M pc ls st sh ν μ k n Q) : X M pc ls st sh ν μ k n Q := by
  intro D cy base p l e s m args below meth c Z hC hZ H locs lsA hR hS hl okl oks
  exact K okl oks hR.2.2 D cy base p l e s m args below meth c Z hC hZ H locs lsA hR hS hl okl oks
/-- a step that touches the stack alone -/
theorem X.stk {pc' : Nat} {st' : List xV} (hok : (∀ v ∈ st, xok sh.length v) → ∀ v ∈ st', xok sh.length v)
    (h : ∀ (base : Nat) (p : Program) (l : Launch) (e : Env) (s : State) (m : MethodId) (args : Array Value) (below : List Frame) (meth : Method) (c : Code) (Z : State → Prop) (H : Heap) (locs : List Loc) (lsA : Array Slot), p.tables.exec = Jvm.exec → c.code = M.2.1 → s.vm.findClass M.1.cls = some m.cls → (∀ w ∈ xT, w.before args s = true) → (∀ v ∈ st, xok sh.length v) →
      W p l e M.2.2.2.2 s m args below meth c H locs k n Z (F0 m pc' lsA (st'.map (xtr base))) → W p l e M.2.2.2.2 s m args below meth c H locs k n Z (F0 m pc lsA (st.map (xtr base))))
    (K : X M pc' ls st' sh ν μ k n Q) : X M pc ls st sh ν μ k n Q := by
  intro D cy base p l e s m args below meth c Z hC hZ H locs lsA hR hS hl okl oks
  exact h base p l e s m args below meth c Z H locs lsA hC.1 hC.2.1 hC.2.2.2.2.1 hC.2.2.2.2.2.1 oks (K D cy base p l e s m args below meth c Z hC hZ H locs lsA hR hS hl okl (hok oks))
theorem x_c0 {K : Nat} {v : xV} {st : List xV} (h : xok K v) (hs : ∀ u ∈ st, xok K u) : ∀ u ∈ v :: st, xok K u := fun u hu => (List.mem_cons.mp hu).elim (fun e => e ▸ h) (hs u)
theorem x_t {K : Nat} {v : xV} {st : List xV} (hs : ∀ u ∈ v :: st, xok K u) : ∀ u ∈ st, xok K u := fun u hu => hs u (List.mem_cons_of_mem _ hu)
theorem x_h {K : Nat} {v : xV} {st : List xV} (hs : ∀ u ∈ v :: st, xok K u) : xok K v := hs v List.mem_cons_self
theorem x_cI {K : Nat} {x : Int} {st : List xV} (h : xi32 x) (hs : ∀ u ∈ st, xok K u) : ∀ u ∈ vI x :: st, xok K u := x_c0 (v := vI x) h hs
theorem x_cL {K : Nat} {x : Int} {st : List xV} (h : xi64 x) (hs : ∀ u ∈ st, xok K u) : ∀ u ∈ vL x :: st, xok K u := x_c0 (v := vL x) h hs
theorem x_hI {K : Nat} {x : Int} {st : List xV} (hs : ∀ u ∈ vI x :: st, xok K u) : xi32 x := hs _ List.mem_cons_self
theorem x_hL {K : Nat} {x : Int} {st : List xV} (hs : ∀ u ∈ vL x :: st, xok K u) : xi64 x := hs _ List.mem_cons_self
theorem X.goto {off : Int} {tgt : Nat} (d : decode M.2.1 pc = .ok (.goto off, 3)) (ht : (pc : Int) + off = (tgt : Int)) (K : X M tgt ls st sh ν μ k n Q) : X M pc ls st sh ν μ k n Q :=
  X.stk (fun h => h) (fun base p l e s m args below meth c Z H locs lsA hx hb _ _ _ W => lv_goto hx hb d ht W) K
theorem X.iconst {x : Int} (d : decode M.2.1 pc = .ok (.iconst x, 1)) (hx : xi32 x) (K : X M (pc + 1) ls (vI x :: st) sh ν μ k n Q) : X M pc ls st sh ν μ k n Q :=
  X.stk (fun h => x_cI hx h) (fun base p l e s m args below meth c Z H locs lsA hx hb _ _ _ W => lv_iconst hx hb d rfl W) K
theorem X.bipush {x y : Int} (d : decode M.2.1 pc = .ok (.bipush x, 2)) (hy : (Int8.ofInt x).toInt32 = Int32.ofInt y) (hx : xi32 y) (K : X M (pc + 2) ls (vI y :: st) sh ν μ k n Q) : X M pc ls st sh ν μ k n Q :=
  X.stk (fun h => x_cI hx h) (fun base p l e s m args below meth c Z H locs lsA hx hb _ _ _ W => lv_bipush hx hb d hy W) K
theorem X.sipush {x y : Int} (d : decode M.2.1 pc = .ok (.sipush x, 3)) (hy : (Int16.ofInt x).toInt32 = Int32.ofInt y) (hx : xi32 y) (K : X M (pc + 3) ls (vI y :: st) sh ν μ k n Q) : X M pc ls st sh ν μ k n Q :=
  X.stk (fun h => x_cI hx h) (fun base p l e s m args below meth c Z H locs lsA hx hb _ _ _ W => lv_sipush hx hb d hy W) K
theorem X.lconst {x : Fin 2} {y : Int} (d : decode M.2.1 pc = .ok (.lconst x, 1)) (hy : Int64.ofNat (x : Nat) = Int64.ofInt y) (hx : xi64 y) (K : X M (pc + 1) ls (vL y :: st) sh ν μ k n Q) : X M pc ls st sh ν μ k n Q :=
  X.stk (fun h => x_cL hx h) (fun base p l e s m args below meth c Z H locs lsA hx hb _ _ _ W => lv_lconst hx hb d hy W) K
theorem X.ldc {x : Int32} {y : Int} {i : Nat} (d : decode M.2.1 pc = .ok (.ldc i, 2)) (hw : Cond.constant M.1.cls i x ∈ xT) (hy : x = Int32.ofInt y) (hx : xi32 y) (K : X M (pc + 2) ls (vI y :: st) sh ν μ k n Q) : X M pc ls st sh ν μ k n Q :=
  X.stk (fun h => x_cI hx h) (fun base p l e s m args below meth c Z H locs lsA hx hb ho ht _ W => lv_ldc hx hb ho (ht _ hw) d (by subst hy; exact W)) K
theorem X.ldc2 {x : Int64} {y : Int} {i : Nat} (d : decode M.2.1 pc = .ok (.ldc2_w i, 3)) (hw : Cond.constantLong M.1.cls i x ∈ xT) (hy : x = Int64.ofInt y) (hx : xi64 y) (K : X M (pc + 3) ls (vL y :: st) sh ν μ k n Q) : X M pc ls st sh ν μ k n Q :=
  X.stk (fun h => x_cL hx h) (fun base p l e s m args below meth c Z H locs lsA hx hb ho ht _ W => lv_ldc2 hx hb ho (ht _ hw) d (by subst hy; exact W)) K
theorem X.iadd {a b : Int} (d : decode M.2.1 pc = .ok (.iadd, 1)) (K : X M (pc + 1) ls (vI (w32 (a + b)) :: st) sh ν μ k n Q) : X M pc ls (vI b :: vI a :: st) sh ν μ k n Q :=
  X.stk (fun h => x_cI (w32_r _) (x_t (x_t h))) (fun base p l e s m args below meth c Z H locs lsA hx hb _ _ _ W => lv_iadd hx hb d (by rw [x32_add]; exact W)) K
theorem X.isub {a b : Int} (d : decode M.2.1 pc = .ok (.isub, 1)) (K : X M (pc + 1) ls (vI (w32 (a - b)) :: st) sh ν μ k n Q) : X M pc ls (vI b :: vI a :: st) sh ν μ k n Q :=
  X.stk (fun h => x_cI (w32_r _) (x_t (x_t h))) (fun base p l e s m args below meth c Z H locs lsA hx hb _ _ _ W => lv_isub hx hb d (by rw [x32_sub]; exact W)) K
theorem X.imul {a b : Int} (d : decode M.2.1 pc = .ok (.imul, 1)) (K : X M (pc + 1) ls (vI (w32 (a * b)) :: st) sh ν μ k n Q) : X M pc ls (vI b :: vI a :: st) sh ν μ k n Q :=
  X.stk (fun h => x_cI (w32_r _) (x_t (x_t h))) (fun base p l e s m args below meth c Z H locs lsA hx hb _ _ _ W => lv_imul hx hb d (by rw [x32_mul]; exact W)) K
theorem X.idiv {a b : Int} (d : decode M.2.1 pc = .ok (.idiv, 1)) (h0 : b ≠ 0) (K : X M (pc + 1) ls (vI (w32 (Int.tdiv a b)) :: st) sh ν μ k n Q) : X M pc ls (vI b :: vI a :: st) sh ν μ k n Q :=
  X.stk (fun h => x_cI (w32_r _) (x_t (x_t h))) (fun base p l e s m args below meth c Z H locs lsA hx hb _ _ ho W => lv_idiv hx hb d (fun q => h0 ((x32_eq (x_hI ho) xi32_0).mp q)) (by rw [x32_div (x_hI (x_t ho)) (x_hI ho)]; exact W)) K
theorem X.irem {a b : Int} (d : decode M.2.1 pc = .ok (.irem, 1)) (h0 : b ≠ 0) (K : X M (pc + 1) ls (vI (w32 (Int.tmod a b)) :: st) sh ν μ k n Q) : X M pc ls (vI b :: vI a :: st) sh ν μ k n Q :=
  X.stk (fun h => x_cI (w32_r _) (x_t (x_t h))) (fun base p l e s m args below meth c Z H locs lsA hx hb _ _ ho W => lv_irem hx hb d (fun q => h0 ((x32_eq (x_hI ho) xi32_0).mp q)) (by rw [x32_rem (x_hI (x_t ho)) (x_hI ho)]; exact W)) K
theorem X.ladd {a b : Int} (d : decode M.2.1 pc = .ok (.ladd, 1)) (K : X M (pc + 1) ls (vL (w64 (a + b)) :: st) sh ν μ k n Q) : X M pc ls (vL b :: vL a :: st) sh ν μ k n Q :=
  X.stk (fun h => x_cL (w64_r _) (x_t (x_t h))) (fun base p l e s m args below meth c Z H locs lsA hx hb _ _ _ W => lv_ladd hx hb d (by rw [x64_add]; exact W)) K
theorem X.lmul {a b : Int} (d : decode M.2.1 pc = .ok (.lmul, 1)) (K : X M (pc + 1) ls (vL (w64 (a * b)) :: st) sh ν μ k n Q) : X M pc ls (vL b :: vL a :: st) sh ν μ k n Q :=
  X.stk (fun h => x_cL (w64_r _) (x_t (x_t h))) (fun base p l e s m args below meth c Z H locs lsA hx hb _ _ _ W => lv_lmul hx hb d (by rw [x64_mul]; exact W)) K
theorem xi64_0 : xi64 0 := ⟨by decide, by decide⟩
theorem X.ldiv {a b : Int} (d : decode M.2.1 pc = .ok (.ldiv, 1)) (h0 : b ≠ 0) (K : X M (pc + 1) ls (vL (w64 (Int.tdiv a b)) :: st) sh ν μ k n Q) : X M pc ls (vL b :: vL a :: st) sh ν μ k n Q :=
  X.stk (fun h => x_cL (w64_r _) (x_t (x_t h))) (fun base p l e s m args below meth c Z H locs lsA hx hb _ _ ho W => lv_ldiv hx hb d (fun q => h0 ((x64_eq (x_hL ho) xi64_0).mp q)) (by rw [x64_div (x_hL (x_t ho)) (x_hL ho)]; exact W)) K
theorem X.lrem {a b : Int} (d : decode M.2.1 pc = .ok (.lrem, 1)) (h0 : b ≠ 0) (K : X M (pc + 1) ls (vL (w64 (Int.tmod a b)) :: st) sh ν μ k n Q) : X M pc ls (vL b :: vL a :: st) sh ν μ k n Q :=
  X.stk (fun h => x_cL (w64_r _) (x_t (x_t h))) (fun base p l e s m args below meth c Z H locs lsA hx hb _ _ ho W => lv_lrem hx hb d (fun q => h0 ((x64_eq (x_hL ho) xi64_0).mp q)) (by rw [x64_rem (x_hL (x_t ho)) (x_hL ho)]; exact W)) K
theorem X.iand {a b : Int} (d : decode M.2.1 pc = .ok (.iand, 1)) (K : X M (pc + 1) ls (vI (xand a b) :: st) sh ν μ k n Q) : X M pc ls (vI b :: vI a :: st) sh ν μ k n Q :=
  X.stk (fun h => x_cI (x32_r _) (x_t (x_t h))) (fun base p l e s m args below meth c Z H locs lsA hx hb _ _ _ W => lv_iand hx hb d (by have W := W; simp only [List.map_cons, xtr, xand, Int32.ofInt_toInt] at W; exact W)) K
theorem X.ior {a b : Int} (d : decode M.2.1 pc = .ok (.ior, 1)) (K : X M (pc + 1) ls (vI (xor_ a b) :: st) sh ν μ k n Q) : X M pc ls (vI b :: vI a :: st) sh ν μ k n Q :=
  X.stk (fun h => x_cI (x32_r _) (x_t (x_t h))) (fun base p l e s m args below meth c Z H locs lsA hx hb _ _ _ W => lv_ior hx hb d (by have W := W; simp only [List.map_cons, xtr, xor_, Int32.ofInt_toInt] at W; exact W)) K
theorem X.ixor {a b : Int} (d : decode M.2.1 pc = .ok (.ixor, 1)) (K : X M (pc + 1) ls (vI (xxor a b) :: st) sh ν μ k n Q) : X M pc ls (vI b :: vI a :: st) sh ν μ k n Q :=
  X.stk (fun h => x_cI (x32_r _) (x_t (x_t h))) (fun base p l e s m args below meth c Z H locs lsA hx hb _ _ _ W => lv_ixor hx hb d (by have W := W; simp only [List.map_cons, xtr, xxor, Int32.ofInt_toInt] at W; exact W)) K
theorem X.ishl {a b : Int} (d : decode M.2.1 pc = .ok (.ishl, 1)) (K : X M (pc + 1) ls (vI (xshl a b) :: st) sh ν μ k n Q) : X M pc ls (vI b :: vI a :: st) sh ν μ k n Q :=
  X.stk (fun h => x_cI (x32_r _) (x_t (x_t h))) (fun base p l e s m args below meth c Z H locs lsA hx hb _ _ _ W => lv_ishl hx hb d (by have W := W; simp only [List.map_cons, xtr, xshl, Int32.ofInt_toInt] at W; exact W)) K
theorem X.ishr {a b : Int} (d : decode M.2.1 pc = .ok (.ishr, 1)) (K : X M (pc + 1) ls (vI (xshr a b) :: st) sh ν μ k n Q) : X M pc ls (vI b :: vI a :: st) sh ν μ k n Q :=
  X.stk (fun h => x_cI (x32_r _) (x_t (x_t h))) (fun base p l e s m args below meth c Z H locs lsA hx hb _ _ _ W => lv_ishr hx hb d (by have W := W; simp only [List.map_cons, xtr, xshr, Int32.ofInt_toInt] at W; exact W)) K
theorem X.iushr {a b : Int} (d : decode M.2.1 pc = .ok (.iushr, 1)) (K : X M (pc + 1) ls (vI (xushr a b) :: st) sh ν μ k n Q) : X M pc ls (vI b :: vI a :: st) sh ν μ k n Q :=
  X.stk (fun h => x_cI (x32_r _) (x_t (x_t h))) (fun base p l e s m args below meth c Z H locs lsA hx hb _ _ _ W => lv_iushr hx hb d rfl (by have W := W; simp only [List.map_cons, xtr, xushr, Int32.ofInt_toInt] at W; exact W)) K
theorem X.i2l {a : Int} (d : decode M.2.1 pc = .ok (.i2l, 1)) (K : X M (pc + 1) ls (vL a :: st) sh ν μ k n Q) : X M pc ls (vI a :: st) sh ν μ k n Q := by
  refine X.ok fun _ oks _ => ?_
  have h : xi32 a := x_hI oks
  have h2 : xi64 a := by unfold xi32 at h; unfold xi64; omega
  exact X.stk (fun h => x_cL h2 (x_t h)) (fun base p l e s m args below meth c Z H locs lsA hx hb _ _ ho W => lv_i2l hx hb d (Int64.toInt.inj (by rw [Int32.toInt_toInt64, x32_to h, x64_to h2])) W) K
theorem X.l2i {a : Int} (d : decode M.2.1 pc = .ok (.l2i, 1)) (K : X M (pc + 1) ls (vI (w32 a) :: st) sh ν μ k n Q) : X M pc ls (vL a :: st) sh ν μ k n Q := by
  refine X.ok fun _ oks _ => ?_
  have h : xi64 a := x_hL oks
  exact X.stk (fun h => x_cI (w32_r _) (x_t h)) (fun base p l e s m args below meth c Z H locs lsA hx hb _ _ ho W => lv_l2i hx hb d (Int32.toInt.inj (by rw [Int64.toInt_toInt32, x64_to h, x32_to (w32_r _)]; rfl)) W) K
theorem X.i2b {a : Int} (d : decode M.2.1 pc = .ok (.i2b, 1)) (K : X M (pc + 1) ls (vI (w8 a) :: st) sh ν μ k n Q) : X M pc ls (vI a :: st) sh ν μ k n Q := by
  refine X.ok fun _ oks _ => ?_
  have h : xi32 a := x_hI oks
  have h2 : xi32 (w8 a) := by have := w8_r a; unfold xi32; omega
  exact X.stk (fun h => x_cI h2 (x_t h)) (fun base p l e s m args below meth c Z H locs lsA hx hb _ _ ho W => lv_i2b hx hb d (Int32.toInt.inj (by rw [Int8.toInt_toInt32, Int32.toInt_toInt8, x32_to h, x32_to h2]; rfl)) W) K
theorem X.lcmp {a b : Int} (d : decode M.2.1 pc = .ok (.lcmp, 1)) (K : X M (pc + 1) ls (vI (xlcmp a b) :: st) sh ν μ k n Q) : X M pc ls (vL b :: vL a :: st) sh ν μ k n Q :=
  X.stk (fun h => x_cI (xlcmp_r _ _) (x_t (x_t h))) (fun base p l e s m args below meth c Z H locs lsA hx hb _ _ ho w9 => W.lcmp hx hb d (by rw [x_lcmp (x_hL (x_t ho)) (x_hL ho)]; exact w9)) K
theorem xtr_cat (base : Nat) (v : xV) : (xtr base v).category = xcat v := by
  rcases v with x | x | _ | x <;> rfl
theorem X.dup {v : xV} (d : decode M.2.1 pc = .ok (.dup, 1)) (hc : xcat v = 1) (K : X M (pc + 1) ls (v :: v :: st) sh ν μ k n Q) : X M pc ls (v :: st) sh ν μ k n Q :=
  X.stk (fun h => x_c0 (x_h h) h) (fun base p l e s m args below meth c Z H locs lsA hx hb _ _ ho W => lv_dup hx hb d (by rw [xtr_cat]; exact hc) W) K
theorem X.pop {v : xV} (d : decode M.2.1 pc = .ok (.pop, 1)) (hc : xcat v = 1) (K : X M (pc + 1) ls st sh ν μ k n Q) : X M pc ls (v :: st) sh ν μ k n Q :=
  X.stk (fun h => x_t h) (fun base p l e s m args below meth c Z H locs lsA hx hb _ _ ho W => lv_pop hx hb d (by rw [xtr_cat]; exact hc) W) K
theorem X.dup_x1 {u v : xV} (d : decode M.2.1 pc = .ok (.dup_x1, 1)) (hc : xcat v = 1) (hc2 : xcat u = 1) (K : X M (pc + 1) ls (v :: u :: v :: st) sh ν μ k n Q) : X M pc ls (v :: u :: st) sh ν μ k n Q :=
  X.stk (fun h => x_c0 (x_h h) (x_c0 (x_h (x_t h)) (x_c0 (x_h h) (x_t (x_t h))))) (fun base p l e s m args below meth c Z H locs lsA hx hb _ _ ho W => lv_dup_x1 hx hb d (by rw [xtr_cat]; exact hc) (by rw [xtr_cat]; exact hc2) W) K
theorem X.dup2 {u v : xV} (d : decode M.2.1 pc = .ok (.dup2, 1)) (hc : xcat v = 1) (hc2 : xcat u = 1) (K : X M (pc + 1) ls (v :: u :: v :: u :: st) sh ν μ k n Q) : X M pc ls (v :: u :: st) sh ν μ k n Q :=
  X.stk (fun h => x_c0 (x_h h) (x_c0 (x_h (x_t h)) h)) (fun base p l e s m args below meth c Z H locs lsA hx hb _ _ ho W => lv_dup2_11 hx hb d (by rw [xtr_cat]; exact hc) (by rw [xtr_cat]; exact hc2) W) K
end XR
