/-! rules: new cells, the library's methods that the kit has rows for -/
theorem x_ra {t : Nat} (ht : t ≤ 3) {U : State} {cy : Nat → ClassId} {D : va_G} (hK : va_K D vwCl (xtys cy) U) : U.vm.findClass ("[" ++ (xkt t).toString) = some (cy t) := by
  match t, ht with
  | 0, _ => exact (hK.2 0 _ rfl).2
  | 1, _ => exact (hK.2 1 _ rfl).2
  | 2, _ => exact (hK.2 2 _ rfl).2
  | 3, _ => exact (hK.2 3 _ rfl).2
theorem zr_s (μ : Nat → Nat → Int) (a : Nat) : zr μ a a = fun _ => 0 := funext fun _ => if_pos rfl
theorem zrr_s (ν : Nat → Nat → Option Nat) (a : Nat) : zrr ν a a = fun _ => none := funext fun _ => if_pos rfl
theorem zr_o {μ : Nat → Nat → Int} {a b : Nat} (h : b ≠ a) : zr μ a b = μ b := funext fun _ => if_neg h
theorem zrr_o {ν : Nat → Nat → Option Nat} {a b : Nat} (h : b ≠ a) : zrr ν a b = ν b := funext fun _ => if_neg h
theorem x_okup {K K' : Nat} (h : K ≤ K') {v : xV} (hv : xok K v) : xok K' v := by
  rcases v with x | x | _ | x
  · exact hv
  · exact hv
  · exact hv
  · exact Nat.lt_of_lt_of_le hv h
theorem x_push1 {D : va_G} {cy : Nat → ClassId} {base : Nat} {sh : List (Nat × Nat)} {ν : Nat → Nat → Option Nat} {μ : Nat → Nat → Int} {H H1 : Heap} {s : Nat × Nat} (hR : xRep D cy base sh ν μ H) (z : H1.size = H.size + 1) (o1 : ∀ q : Nat, q < H.size → H1[q]? = H[q]?) (he : va_at D vwCl (base + sh.length, xE cy base s (fun _ => none) (fun _ => 0)) H1) : xRep D cy base (sh ++ [s]) (zrr ν sh.length) (zr μ sh.length) H1 := by
  have hν : ∀ b, b < sh.length → zrr ν sh.length b = ν b := fun b h => zrr_o (Nat.ne_of_lt h)
  have hμ : ∀ b, b < sh.length → zr μ sh.length b = μ b := fun b h => zr_o (Nat.ne_of_lt h)
  refine ⟨by rw [z, hR.1]; simp; omega, ?_, xOKh_push hR.2.2 hν hμ ?_⟩
  · rw [← xW_push (ν := ν) (μ := μ) hν hμ rfl, zrr_s, zr_s]
    refine va_P.app (hR.2.1.kept fun k x hx => o1 x.1 ((hR.2.1 k x hx).lt)) fun k x hx => ?_
    have hz : k < 1 := (List.getElem?_eq_some_iff.mp hx).1
    rw [show k = 0 by omega] at hx
    cases hx
    exact he
  · rw [zrr_s, zr_s]
    exact ⟨fun i => xrg_0 _, fun i b h => by cases h⟩
theorem vp_z (cA : ClassId) (N : Nat) : arrV cA N (fun _ => .int 0) = vp_cell cA (N, .inl fun _ => Int32.ofInt 0) := by rw [vp_cell_i]; rfl
theorem vp_zL (cA : ClassId) (N : Nat) : arrV cA N (fun _ => .long 0) = vp_cell cA (N, .inr (.inl fun _ => Int64.ofInt 0)) := by rw [vp_cell_l]; rfl
section XR
variable {M : xM} {pc : Nat} {ls : List (Nat × xV)} {st : List xV} {sh : List (Nat × Nat)} {ν : Nat → Nat → Option Nat} {μ : Nat → Nat → Int} {k n : Nat} {Q : xQ}
theorem X.newa {at' : ArrayType} {t N : Nat} (d : decode M.2.1 pc = .ok (.newarray at', 2)) (ht : t ≤ 3) (hat : newarray.typeOf at' = xkt t) (hw : Cond.arrayClass (xkt t) ∈ xT) (hN : N ≤ 60000) (hc : k + 1 ≤ M.2.2.2.2.cells) (hsl : n + N ≤ M.2.2.2.2.slots) (K : X M (pc + 2) ls (vR sh.length :: st) (sh ++ [(t, N)]) (zrr ν sh.length) (zr μ sh.length) (k + 1) (n + N) Q) : X M pc ls (vI N :: st) sh ν μ k n Q := by
  intro D cy base p l e s m args below meth c Z hC hZ H locs lsA hR hS hl okl oks
  have hr : xi32 (N : Int) := by unfold xi32; omega
  have e1 : (Int32.ofInt (N : Int)).toNatClampNeg = N := by rw [← Int32.toNat_toInt, x32_to hr]; rfl
  have h0 : ¬ Int32.ofInt (N : Int) < 0 := fun h => by have := (x32_lt hr xi32_0).mp h; omega
  have hb : N * componentBytes (newarray.typeOf at') ≤ 536870912 := by
    rw [hat]
    have : componentBytes (xkt t) ≤ 8 := by
      match t, ht with
      | 0, _ => decide
      | 1, _ => decide
      | 2, _ => decide
      | 3, _ => decide
    have h2 : N * componentBytes (xkt t) ≤ 60000 * 8 := Nat.mul_le_mul hN this
    omega
  refine va_newaK hC.1 hC.2.1 (by rw [hat]; exact hC.2.2.2.2.2.1 _ hw) rfl d rfl h0 e1 hb hc hsl hR.1 fun H1 cA e2 z o1 hAr hNm => ?_
  have hcA : cA = cy t := by
    rw [hat] at hNm
    exact Option.some.inj (hNm.symm.trans (x_ra ht hC.2.2.2.2.2.2.1))
  subst hcA
  have hlen : (sh ++ [(t, N)]).length = sh.length + 1 := by simp
  refine K D cy base p l e s m args below meth c Z hC hZ H1 locs lsA (x_push1 hR (by rw [z, hR.1]) (fun q hq => o1 q (by rw [← hR.1]; exact hq)) ?_) (va_S_mono hS (by rw [z, hR.1]; omega) (fun q hq => o1 q (by rw [← hR.1]; exact hq))) hl (fun q hq => x_okup (by rw [hlen]; omega) (okl q hq)) (x_c0 (show sh.length < _ by rw [hlen]; omega) fun v hv => x_okup (by rw [hlen]; omega) (x_t oks v hv))
  rw [hat] at e2
  match t, ht with
  | 0, _ => exact e2.trans (congrArg some (vp_z _ N))
  | 1, _ => exact e2.trans (congrArg some (vp_zL _ N))
  | 2, _ => exact e2.trans (congrArg some (vp_z _ N))
  | 3, _ => exact e2.trans (congrArg some (vp_z _ N))
def xNL (own : String) (idx ci : Nat) : Prop := ∃ (C : String) (T : u_T) (N : Nat), xCL ci C T N ∧ Cond.classLink own idx C ∈ xT ∧ Cond.instantiable C N ∈ xT ∧ Cond.initialized C ∈ xT ∧ ∀ j, j < N → defaultValue (xfT ci j) = xF 0 (xfT ci j) none 0
theorem xF_0 (base : Nat) (ty : FieldType) : xF base ty none 0 = xF 0 ty none 0 := by cases ty <;> rfl
theorem X.new {idx ci : Nat} (d : decode M.2.1 pc = .ok (.new idx, 3)) (hn : xNL M.1.cls idx ci) (hc : k + 1 ≤ M.2.2.2.2.cells) (hsl : n + xN ci ≤ M.2.2.2.2.slots) (K : X M (pc + 3) ls (vR sh.length :: st) (sh ++ [(6, ci)]) (zrr ν sh.length) (zr μ sh.length) (k + 1) (n + xN ci) Q) : X M pc ls st sh ν μ k n Q := by
  intro D cy base p l e s m args below meth c Z hC hZ H locs lsA hR hS hl okl oks
  obtain ⟨C, T, N, hcl, hw1, hw2, hw3, hdf⟩ := hn
  have hts := hC.2.2.2.2.2.1
  have hKn := hC.2.2.2.2.2.2.1.1 ci _ hcl.1
  have hNe := hcl.2.1
  subst hNe
  refine W.newcK hC.1 hC.2.1 hC.2.2.2.2.1 (hts _ hw1) (hts _ hw2) (hts _ hw3) rfl d hc hsl hKn.2.1 hR.1 fun H1 kC hkC e1 z o1 => ?_
  have hlen : (sh ++ [(6, ci)]).length = sh.length + 1 := by simp
  refine K D cy base p l e s m args below meth c Z hC hZ H1 locs lsA (x_push1 hR (by rw [z, hR.1]) (fun q hq => o1 q (by rw [← hR.1]; exact hq)) ?_) (va_S_mono hS (by rw [z, hR.1]; omega) (fun q hq => o1 q (by rw [← hR.1]; exact hq))) hl (fun q hq => x_okup (by rw [hlen]; omega) (okl q hq)) (x_c0 (show sh.length < _ by rw [hlen]; omega) fun v hv => x_okup (by rw [hlen]; omega) (oks v hv))
  refine ⟨_, hcl.1, (u_born (xfT ci) hts hcl.2.2.1 hKn hkC e1 hcl.2.2.2.1).to fun j hj => ?_⟩
  show defaultValue (xfT ci j) = ((List.range (xN ci)).map fun k => xF base (xfT ci k) none 0).getD j .null
  rw [hdf j hj]
  simp [List.getD, List.getElem?_range hj, xF_0 base]
theorem X.newq {idx N : Nat} (d : decode M.2.1 pc = .ok (.anewarray idx, 3)) (hw : Cond.classLink M.1.cls idx RX7 ∈ xT) (hN : N ≤ 60000) (hc : k + 1 ≤ M.2.2.2.2.cells) (hsl : n + N ≤ M.2.2.2.2.slots) (K : X M (pc + 3) ls (vR sh.length :: st) (sh ++ [(4, N)]) (zrr ν sh.length) (zr μ sh.length) (k + 1) (n + N) Q) : X M pc ls (vI N :: st) sh ν μ k n Q := by
  intro D cy base p l e s m args below meth c Z hC hZ H locs lsA hR hS hl okl oks
  have hr : xi32 (N : Int) := by unfold xi32; omega
  have e0 : (Int32.ofInt (N : Int)).toNatClampNeg = N := by rw [← Int32.toNat_toInt, x32_to hr]; rfl
  have h0 : ¬ Int32.ofInt (N : Int) < 0 := fun h => by have := (x32_lt hr xi32_0).mp h; omega
  have hXt := hC.2.2.2.2.2.2.2.2.2.2
  refine W.anew hC.1 hC.2.1 hC.2.2.2.2.1 (hC.2.2.2.2.2.1 _ hw) hXt.1.use rfl d rfl h0 (by rw [e0]; omega) hc (by rw [e0]; exact hsl) fun cA kA comp f1 f2 f3 f4 => ?_
  rw [e0]
  have hcA : cA = cy 4 := by
    obtain ⟨kA', comp', -, -, -, g4⟩ := (hC.2.2.2.2.2.2.1.2 4 _ rfl).2
    exact Option.some.inj (f1.symm.trans g4)
  subst hcA
  have hlen : (sh ++ [(4, N)]).length = sh.length + 1 := by simp
  generalize hH1 : H.push ({ cls := cy 4, slots := Array.replicate N .null, vm := .none } : Cell) = H1
  have z1 : H1.size = H.size + 1 := by rw [← hH1, Array.size_push]
  have e1 : H1[H.size]? = some (arrV (cy 4) N (fun _ => .null)) := by rw [← hH1, Array.getElem?_push_size, ← arrV_new]
  have o1 : ∀ q : Nat, q < H.size → H1[q]? = H[q]? := fun q hq => by rw [← hH1, Array.getElem?_push, if_neg (Nat.ne_of_lt hq)]
  have K2 := K D cy base p l e s m args below meth c Z hC hZ H1 locs lsA (x_push1 hR z1 o1 (by rw [hR.1] at e1; exact e1)) (va_S_mono hS (by rw [z1]; omega) o1) hl (fun q hq => x_okup (by rw [hlen]; omega) (okl q hq)) (x_c0 (show sh.length < _ by rw [hlen]; omega) fun v hv => x_okup (by rw [hlen]; omega) (x_t oks v hv))
  have K3 : W p l e M.2.2.2.2 s m args below meth c H1 locs (k + 1) (n + N) Z (F0 m (pc + 3) lsA (.ref (base + sh.length) :: st.map (xtr base))) := K2
  rw [← hR.1] at K3
  exact K3
theorem X.aastore {a b N : Nat} {i : Int} (d : decode M.2.1 pc = .ok (.aastore, 1)) (hs : sh[a]? = some (4, N)) (hb : sh[b]? = some (6, 7)) (hi : 0 ≤ i ∧ i < N) (K : X M (pc + 1) ls st sh (upr ν a i.toNat (some b)) μ k n Q) : X M pc ls (vR b :: vI i :: vR a :: st) sh ν μ k n Q := by
  intro D cy base p l e s m args below meth c Z hC hZ H locs lsA hR hS hl okl oks
  obtain ⟨h1, h2⟩ := xN_i hi.1 hi.2 (x_hI (x_t oks))
  have hlt : (Int32.ofInt i).toNatClampNeg < N := by rw [h2]; omega
  have h0 : ¬ Int32.ofInt i < 0 := fun q => h1 (Or.inl q)
  have hK := hC.2.2.2.2.2.2.1
  obtain ⟨r', hr', cellV, g1, g2, g3, -⟩ := hR.2.1 b _ (xW_get hb)
  have hcls := (hK.1 7 _ rfl).2
  obtain ⟨kA, comp, k1, k2, k3, -⟩ := (hK.2 4 _ rfl).2
  have hcomp : comp = D.1 7 := Option.some.inj (k3.symm.trans hcls.1)
  subst hcomp
  obtain ⟨kC, hkC, -⟩ := hcls.2
  refine W.aast hC.1 hC.2.1 (hR.2.1 a _ (xW_get hs)) (fun q h => by cases h) (fun h => by cases h) k1 k2 rfl hkC ⟨h0, by show _ < (arrV _ _ _).slots.size; rw [arrV_size]; exact hlt⟩ g1 (fun q h => by rw [g3] at h; cases h) (by rw [g2]; exact hkC) (by rw [g2]; exact va_assign hcls) rfl rfl d fun H1 e z oq => ?_
  refine K D cy base p l _ s m args below meth c Z hC hZ H1 _ lsA (x_set1 (ν' := upr ν a i.toNat (some b)) (μ' := μ) hR hs z oq ?_ upr_o (fun _ _ => rfl) (xOKh_nu hR.2.2 (fun c hc => by cases hc; exact x_h oks))) (hS.put z oq (Nat.le_add_right _ _)) hl okl (x_t (x_t (x_t oks)))
  refine e.trans (congrArg some ?_)
  show (vp_cell (cy 4) (N, .inr (.inr (.inr (.inr fun i => (ν a i).map (base + ·)))))).setSlot _ _ = vp_cell (cy 4) (N, .inr (.inr (.inr (.inr fun j => (upr ν a i.toNat (some b) a j).map (base + ·)))))
  rw [vp_cell_q, vp_cell_q, arrV_store, h2]
  congr 1
  funext q
  by_cases hq : q = i.toNat
  · subst hq
    simp [updV, upr_s, va_rf]
  · simp [updV, hq, upr_k hq]
theorem X.objInit {idx a : Nat} (d : decode M.2.1 pc = .ok (.invokespecial idx, 3)) (hw : Cond.methodLink M.1.cls idx objectInit ∈ xT) (hi : Cond.instanceMethod objectInit ∈ xT) (hc : Cond.code objectInit ⟨#[0xb1]⟩ 1 none ∈ xT) (hf : 1 ≤ M.2.2.2.2.frames) (hlo : (st.map xcat).sum + 12 ≤ M.2.2.2.2.locals) (K : X M (pc + 3) ls st sh ν μ k n Q) : X M pc ls (vR a :: st) sh ν μ k n Q := by
  intro D cy base p l e s m args below meth c Z hC hZ H locs lsA hR hS hl okl oks
  have hts := hC.2.2.2.2.2.1
  refine W.objInit hC.1 hC.2.1 hC.2.2.2.2.1 (hts _ hw) (hts _ hi) (hts _ hc) rfl (by rw [hC.2.2.2.1]; exact hl.1) rfl d hf ?_ (K D cy base p l e s m args below meth c Z hC hZ H locs lsA hR hS hl okl (x_t oks))
  rw [x_catsum]
  exact (show 2 * 0 + (st.map xcat).sum + 12 ≤ M.2.2.2.2.locals by omega)
theorem X.mmin {idx : Nat} {a b : Int} (d : decode M.2.1 pc = .ok (.invokestatic idx, 3)) (hw : Cond.methodLink M.1.cls idx Lib.MathLoose.min_long.x ∈ xT) (hi : Cond.static Lib.MathLoose.min_long.x ∈ xT) (hini : Cond.initialized "java/lang/Math" ∈ xT) (hc : Cond.code Lib.MathLoose.min_long.x Lib.MathLoose.min_long.code 4 (some .long) ∈ xT) (hf : 1 ≤ M.2.2.2.2.frames) (hlo : (st.map xcat).sum + 15 ≤ M.2.2.2.2.locals) (hk : k ≤ M.2.2.2.2.cells) (hn : n ≤ M.2.2.2.2.slots)
    (K : X M (pc + 3) ls (vL (min a b) :: st) sh ν μ k n Q) : X M pc ls (vL b :: vL a :: st) sh ν μ k n Q := by
  intro D cy base p l e s m args below meth c Z hC hZ H locs lsA hR hS hl okl oks
  have hts := hC.2.2.2.2.2.1
  have ha : xi64 a := x_hL (x_t oks)
  have hb : xi64 b := x_hL oks
  have hm : (if Int64.ofInt b < Int64.ofInt a then Int64.ofInt b else Int64.ofInt a) = Int64.ofInt (min a b) := by
    by_cases h : b < a
    · rw [if_pos ((x64_lt hb ha).mpr h), Int.min_eq_right (by omega)]
    · rw [if_neg (fun q => h ((x64_lt hb ha).mp q)), Int.min_eq_left (by omega)]
  have hmr : xi64 (min a b) := by
    unfold xi64 at ha hb ⊢
    omega
  refine va_mmin_long hC.1 hC.2.1 (hC.2.2.2.1.trans hl.1.symm) hC.2.2.2.2.1 (hts _ hw) (hts _ hi) (hts _ hini) (hts _ hc) hf (by rw [x_catsum]; exact hlo) hk hn d ?_
  rw [hm]
  exact K D cy base p l e s m args below meth c Z hC hZ H locs lsA hR hS hl okl (x_cL hmr (x_t (x_t oks)))
end XR
