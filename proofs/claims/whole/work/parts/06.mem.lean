/-! rules: fields, arrays, new cells -/
def xCL (ci : Nat) (C : String) (T : u_T) (N : Nat) : Prop := vwCl[ci]? = some (C, T, N) ∧ N = xN ci ∧ (∀ w ∈ u_ws C T N, w ∈ xT) ∧ (∀ j, j < N → parseFieldDescriptor (T j).2.2.1 = some (xfT ci j)) ∧ (∀ a, a < N → ∀ b, b < N → a ≠ b → (T a).2.1 ≠ (T b).2.1) ∧ ∀ j, j < N → (T j).1 = C
/-- entry idx of the pool of 'own' is field k of the objects of kind ci -/
def xFL (own : String) (idx ci k : Nat) (fin : Bool) (ty : FieldType) : Prop := ∃ (C : String) (T : u_T) (N : Nat), xCL ci C T N ∧ k < N ∧ Cond.fieldLink own idx (T k).1 (T k).2.1 (T k).2.2.1 ∈ xT ∧ (T k).2.2.2 = fin ∧ xfT ci k = ty
def xisI (ty : FieldType) : Bool := match ty with
  | .int => true
  | .boolean => true
  | _ => false
def xisR (ty : FieldType) : Bool := match ty with
  | .object _ => true
  | .array _ => true
  | _ => false
theorem xF_I {ty : FieldType} (h : xisI ty = true) (base : Nat) (r : Option Nat) (v : Int) : xF base ty r v = .int (Int32.ofInt v) := by
  cases ty <;> first | rfl | cases h
theorem xF_R {ty : FieldType} (h : xisR ty = true) (base : Nat) (r : Option Nat) (v : Int) : xF base ty r v = va_rf (r.map (base + ·)) := by
  cases ty <;> first | rfl | cases h
theorem xrg_I {ty : FieldType} (h : xisI ty = true) {v : Int} (hv : xrg ty v) : xi32 v := by
  cases ty <;> first | exact hv | (rcases hv with rfl | rfl <;> exact ⟨by decide, by decide⟩) | cases h
theorem xrg_R {ty : FieldType} (h : xisR ty = true) (v : Int) (hv : xi32 v) : xrg ty v := by
  cases ty <;> first | exact hv | cases h
theorem xE_o (cy : Nat → ClassId) (base ci : Nat) (r : Nat → Option Nat) (v : Nat → Int) : xE cy base (6, ci) r v = .inr (ci, (List.range (xN ci)).map fun k => xF base (xfT ci k) (r k) (v k)) := rfl
theorem xfs_get {base ci k : Nat} (hk : k < xN ci) (r : Nat → Option Nat) (v : Nat → Int) : ((List.range (xN ci)).map fun k => xF base (xfT ci k) (r k) (v k))[k]? = some (xF base (xfT ci k) (r k) (v k)) := by
  simp [List.getElem?_range hk]
theorem xfs_set {base ci k : Nat} {r r' : Nat → Option Nat} {v v' : Nat → Int} {x : Value} (hr : ∀ j, j ≠ k → r' j = r j) (hv : ∀ j, j ≠ k → v' j = v j) (hx : x = xF base (xfT ci k) (r' k) (v' k)) :
    ((List.range (xN ci)).map fun k => xF base (xfT ci k) (r k) (v k)).set k x = (List.range (xN ci)).map fun k => xF base (xfT ci k) (r' k) (v' k) := by
  apply List.ext_getElem?
  intro i
  by_cases hi : i = k
  · subst hi
    by_cases hl : i < xN ci
    · rw [List.getElem?_set_self (by simpa using hl), xfs_get hl, hx]
    · rw [List.getElem?_eq_none (by simp; omega), List.getElem?_eq_none (by simp; omega)]
  · rw [List.getElem?_set_ne (fun q => hi q.symm)]
    by_cases hl : i < xN ci
    · rw [xfs_get hl, xfs_get hl, hr i hi, hv i hi]
    · rw [List.getElem?_eq_none (by simp; omega), List.getElem?_eq_none (by simp; omega)]
theorem up_o {μ : Nat → Nat → Int} {a k : Nat} {v : Int} : ∀ b, b ≠ a → up μ a k v b = μ b := fun b h => funext fun j => up_a h j
theorem upr_s (ν : Nat → Nat → Option Nat) (a k : Nat) (v : Option Nat) : upr ν a k v a k = v := if_pos ⟨rfl, rfl⟩
theorem upr_k {ν : Nat → Nat → Option Nat} {a k j : Nat} {v : Option Nat} (h : j ≠ k) (b : Nat) : upr ν a k v b j = ν b j := if_neg fun q => h q.2
theorem upr_a {ν : Nat → Nat → Option Nat} {a k b : Nat} {v : Option Nat} (h : b ≠ a) (j : Nat) : upr ν a k v b j = ν b j := if_neg fun q => h q.1
theorem upr_o {ν : Nat → Nat → Option Nat} {a k : Nat} {v : Option Nat} : ∀ b, b ≠ a → upr ν a k v b = ν b := fun b h => funext fun j => upr_a h j
theorem xOKh_refl {sh : List (Nat × Nat)} {ν : Nat → Nat → Option Nat} {μ : Nat → Nat → Int} (h : xOKh sh ν μ) {a : Nat} {s : Nat × Nat} (hs : sh[a]? = some s) (i : Nat) : xrg (xty s i) (μ a i) := (h a s hs).1 i
theorem va_S_mono {A : Nat → Prop} {H0 H H1 : Heap} {locs : List Loc} (hS : va_S A H0 H locs) (z : H.size ≤ H1.size) (o1 : ∀ q : Nat, q < H.size → H1[q]? = H[q]?) : va_S A H0 H1 locs := ⟨Nat.le_trans hS.1 z, fun x h1 h2 => (o1 x (Nat.lt_of_lt_of_le h1 hS.1)).trans (hS.2.1 x h1 h2), hS.2.2⟩
section XR
variable {M : xM} {pc : Nat} {ls : List (Nat × xV)} {st : List xV} {sh : List (Nat × Nat)} {ν : Nat → Nat → Option Nat} {μ : Nat → Nat → Int} {k n : Nat} {Q : xQ}
theorem X.getI {a idx ci f : Nat} {fin : Bool} {ty : FieldType} (d : decode M.2.1 pc = .ok (.getfield idx, 3)) (hf : xFL M.1.cls idx ci f fin ty) (hty : xisI ty = true) (hs : sh[a]? = some (6, ci)) (K : X M (pc + 3) ls (vI (μ a f) :: st) sh ν μ k n Q) : X M pc ls (vR a :: st) sh ν μ k n Q := by
  intro D cy base p l e s m args below meth c Z hC hZ H locs lsA hR hS hl okl oks
  obtain ⟨C, T, N, hcl, hk, hw, -, rfl⟩ := hf
  have hg := xOKh_refl hR.2.2 hs f
  have hv : ((List.range (xN ci)).map fun k => xF base (xfT ci k) (ν a k) (μ a k))[f]? = some (.int (Int32.ofInt (μ a f))) := by
    rw [xfs_get (by rw [← hcl.2.1]; exact hk), xF_I hty]
  exact va_get hC.1 hC.2.1 hC.2.2.2.2.2.1 hcl.2.2.1 hC.2.2.2.2.1 hC.2.2.2.2.2.2.1 hR.2.1 a ((xW_get hs).trans (by rw [xE_o])) hcl.1 f hk (hC.2.2.2.2.2.1 _ hw) (fun _ h9 => h9) hv d (K D cy base p l e s m args below meth c Z hC hZ H locs lsA hR hS hl okl (x_c0 (v := vI (μ a f)) (xrg_I hty hg) (x_t oks)))
theorem X.getR {a b idx ci f : Nat} {fin : Bool} {ty : FieldType} (d : decode M.2.1 pc = .ok (.getfield idx, 3)) (hf : xFL M.1.cls idx ci f fin ty) (hty : xisR ty = true) (hs : sh[a]? = some (6, ci)) (hb : ν a f = some b) (K : X M (pc + 3) ls (vR b :: st) sh ν μ k n Q) : X M pc ls (vR a :: st) sh ν μ k n Q := by
  intro D cy base p l e s m args below meth c Z hC hZ H locs lsA hR hS hl okl oks
  obtain ⟨C, T, N, hcl, hk, hw, -, rfl⟩ := hf
  have hg := (hR.2.2 a _ hs).2 f b hb
  have hv : ((List.range (xN ci)).map fun k => xF base (xfT ci k) (ν a k) (μ a k))[f]? = some (.ref (base + b)) := by
    rw [xfs_get (by rw [← hcl.2.1]; exact hk), xF_R hty, hb]
    rfl
  exact va_get hC.1 hC.2.1 hC.2.2.2.2.2.1 hcl.2.2.1 hC.2.2.2.2.1 hC.2.2.2.2.2.2.1 hR.2.1 a ((xW_get hs).trans (by rw [xE_o])) hcl.1 f hk (hC.2.2.2.2.2.1 _ hw) (fun _ h9 => h9) hv d (K D cy base p l e s m args below meth c Z hC hZ H locs lsA hR hS hl okl (x_c0 (v := vR b) hg (x_t oks)))
theorem x_nar {ty : FieldType} (h : xisI ty = true) {v : Int} (hv : ty = .int ∨ v = 0 ∨ v = 1) : narrow ty (.int (Int32.ofInt v)) = .int (Int32.ofInt v) ∧ fits ty (.int (Int32.ofInt v)) = true := by
  cases ty <;> first | (exact ⟨rfl, rfl⟩) | (rcases hv with hv | rfl | rfl <;> first | exact ⟨by decide, by decide⟩ | cases hv) | cases h
theorem x_xrg {ty : FieldType} (h : xisI ty = true) {v : Int} (hi : xi32 v) (hv : ty = .int ∨ v = 0 ∨ v = 1) : xrg ty v := by
  cases ty <;> first | exact absurd h (by decide) | exact hi | (rcases hv with hv | hv | hv <;> first | exact Or.inl hv | exact Or.inr hv | cases hv) | cases h
theorem x_set1 {D : va_G} {cy : Nat → ClassId} {base a : Nat} {s : Nat × Nat} {ν' : Nat → Nat → Option Nat} {μ' : Nat → Nat → Int} {H H1 : Heap} (hR : xRep D cy base sh ν μ H) (hs : sh[a]? = some s) (z : H1.size = H.size) (oq : ∀ q : Nat, q ≠ base + a → H1[q]? = H[q]?) (he : va_at D vwCl (base + a, xE cy base s (ν' a) (μ' a)) H1) (hν : ∀ b, b ≠ a → ν' b = ν b) (hμ : ∀ b, b ≠ a → μ' b = μ b) (hok : xOKh sh ν' μ') : xRep D cy base sh ν' μ' H1 :=
  ⟨z.trans hR.1, by rw [← xW_set (ν := ν) (μ := μ) hs hν hμ rfl]; exact hR.2.1.set xW_D (xW_get hs) he oq, hok⟩
theorem xisRI {ty : FieldType} (h : xisI ty = true) : xisR ty = false := by
  cases ty <;> first | rfl | cases h
/-- a store to a field: what the low row wants -/
theorem x_putW {D : va_G} {cy : Nat → ClassId} {base : Nat} {p : Program} {l : Launch} {e : Env} {s : State} {m : MethodId} {args : Array Value} {below : List Frame} {meth : Method} {c : Code} {Z : State → Prop} {H : Heap} {locs : List Loc} {lsA : Array Slot} {rest : List Value} {a idx ci f : Nat} {fin : Bool} {ty : FieldType} {v : Value} {ν' : Nat → Nat → Option Nat} {μ' : Nat → Nat → Int}
    (hC : xC M D cy base p s m args meth c) (hR : xRep D cy base sh ν μ H) (hS : va_S (fun q : Nat => base ≤ q) s.heap H locs) (d : decode M.2.1 pc = .ok (.putfield idx, 3)) (hf : xFL M.1.cls idx ci f fin ty) (hfi : fin = true → M.1.name = "<init>" ∧ (vwCl[ci]?).map (·.1) = some M.1.cls) (hs : sh[a]? = some (6, ci)) (hn : narrow ty v = v) (hfit : fits ty v = true)
    (hν : ∀ b, b ≠ a → ν' b = ν b) (hμ : ∀ b, b ≠ a → μ' b = μ b) (hνa : ∀ j, j ≠ f → ν' a j = ν a j) (hμa : ∀ j, j ≠ f → μ' a j = μ a j) (hv : v = xF base ty (ν' a f) (μ' a f)) (hok : xOKh sh ν' μ')
    (kk : ∀ (H1 : Heap) (locs1 : List Loc), xRep D cy base sh ν' μ' H1 → va_S (fun q : Nat => base ≤ q) s.heap H1 locs1 → W p l e M.2.2.2.2 s m args below meth c H1 locs1 k n Z (F0 m (pc + 3) lsA rest)) : W p l e M.2.2.2.2 s m args below meth c H locs k n Z (F0 m pc lsA (v :: .ref (base + a) :: rest)) := by
  obtain ⟨C, T, N, hcl, hk, hw, hfin, rfl⟩ := hf
  obtain ⟨hx, hb, -, -, hown, hts, hK, -, -, hname, -⟩ := hC
  have hap := va_apart (own := M.1.cls) hts hcl.2.2.1 (xfT ci) hcl.2.2.2.1 hcl.2.2.2.2.1 hK hcl.1
  have hPa := hR.2.1 a _ (xW_get hs)
  obtain ⟨r, h1, cell, q1, q2, q3, q4⟩ := hPa
  have hr : r = (C, T, N) := Option.some.inj (h1.symm.trans hcl.1)
  subst hr
  obtain ⟨hSl, hfc, kC, hkC, hkind⟩ := hK.1 ci _ hcl.1
  obtain ⟨cf, kf, fi, fd, hi, hsl⟩ := hSl f hk
  have hlay := hts _ (hcl.2.2.1 _ (u_in_lay hk))
  unfold u_lay at hlay
  have hst := (u_facts hfc hkC (u_lays hts hcl.2.2.1 hk) hi).1
  have hlenN : f < ((List.range (xN ci)).map fun k => xF base (xfT ci k) (ν a k) (μ a k)).length := by simp; rw [← hcl.2.1]; exact hk
  have last : ∀ H' : Heap, H'[base + a]? = some (cell.setSlot fd.slot v) → H'.size = H.size → (∀ q, q ≠ base + a → H'[q]? = H[q]?) → W p l e M.2.2.2.2 s m args below meth c H' (locs ++ [⟨base + a, fd.slot⟩]) k n Z (F0 m (pc + 3) lsA rest) := by
    intro H' e1 e2 e3
    rw [hsl] at e1 ⊢
    refine kk H' _ (x_set1 (ν' := ν') (μ' := μ') hR hs e2 e3 ?_ hν hμ hok) (hS.put e2 e3 (Nat.le_add_right _ _))
    refine ⟨_, hcl.1, t_OB.to (V := updV (vp_V ((List.range (xN ci)).map fun k => xF base (xfT ci k) (ν a k) (μ a k))) f v) ⟨_, e1, q2, q3, t_set q4 hap hk v⟩ (fun j _ => ?_)⟩
    rw [vp_updV_set hlenN v j]
    show vp_V _ j = vp_V ((List.range (xN ci)).map fun k => xF base (xfT ci k) (ν' a k) (μ' a k)) j
    rw [xfs_set (r' := ν' a) (v' := μ' a) hνa hμa hv]
  cases fin with
  | false =>
    rw [if_neg (by rw [hfin]; decide)] at hlay
    have h6 := u_store hfc hkC hkind hlay hi (hcl.2.2.2.1 f hk) hn hfit
    exact W.putK hx hb (f := fd) ⟨hown, hts _ hw, ⟨_, _, _, hi⟩, hst⟩ (by rw [q2]; exact h6) q1 q3 (by rw [hsl]; exact k2_hasslot (q4 f hk)) rfl rfl d last
  | true =>
    rw [if_pos hfin] at hlay
    have hcf : m.cls = cf := by
      obtain ⟨_, _, c', _, _, _, -, -, hf', -, -, -, hown2, -⟩ := Cond.laysFinal_spec hlay
      have e1 : c' = cf := by have := hi.symm.trans hf'; simp at this; exact this.1.symm
      have hC2 : C = M.1.cls := by
        have h9 := (hfi rfl).2
        rw [hcl.1] at h9
        exact Option.some.inj h9
      rw [hcl.2.2.2.2.2 f hk, hC2] at hown2
      rw [← e1]; exact Option.some.inj (hown.symm.trans hown2)
    have h6 := u_fits hfc hkC hkind (Or.inr hlay) hi (hcl.2.2.2.1 f hk) hn hfit
    exact W.putFinK hx hb hown (hts _ hw) hi hst hcf (hname.trans (hfi rfl).1) (by rw [q2]; exact h6) q1 q3 (by rw [hsl]; exact k2_hasslot (q4 f hk)) rfl rfl d last
theorem X.putI {a idx ci f : Nat} {fin : Bool} {ty : FieldType} {v : Int} (d : decode M.2.1 pc = .ok (.putfield idx, 3)) (hf : xFL M.1.cls idx ci f fin ty) (hty : xisI ty = true) (hfi : fin = true → M.1.name = "<init>" ∧ (vwCl[ci]?).map (·.1) = some M.1.cls) (hs : sh[a]? = some (6, ci)) (hv : ty = .int ∨ v = 0 ∨ v = 1) (K : X M (pc + 3) ls st sh ν (up μ a f v) k n Q) : X M pc ls (vI v :: vR a :: st) sh ν μ k n Q := by
  intro D cy base p l e s m args below meth c Z hC hZ H locs lsA hR hS hl okl oks
  have hvi : xi32 v := x_hI oks
  have hxt : xrg (xty (6, ci) f) v := by
    obtain ⟨C, T, N, -, -, -, -, h⟩ := hf
    show xrg (xfT ci f) v
    rw [h]
    exact x_xrg hty hvi hv
  exact x_putW (ν' := ν) (μ' := up μ a f v) hC hR hS d hf hfi hs (x_nar hty hv).1 (x_nar hty hv).2 (fun _ _ => rfl) up_o (fun _ _ => rfl) (fun j hj => up_k hj a) (by rw [up_s, xF_I hty]; rfl) (xOKh_mu hR.2.2 hs hxt) fun H1 locs1 hR1 hS1 => K D cy base p l e s m args below meth c Z hC hZ H1 locs1 lsA hR1 hS1 hl okl (x_t (x_t oks))
theorem X.putR {a b idx ci f : Nat} {fin : Bool} {ty : FieldType} (d : decode M.2.1 pc = .ok (.putfield idx, 3)) (hf : xFL M.1.cls idx ci f fin ty) (hty : xisR ty = true) (hfi : fin = true → M.1.name = "<init>" ∧ (vwCl[ci]?).map (·.1) = some M.1.cls) (hs : sh[a]? = some (6, ci)) (K : X M (pc + 3) ls st sh (upr ν a f (some b)) μ k n Q) : X M pc ls (vR b :: vR a :: st) sh ν μ k n Q := by
  intro D cy base p l e s m args below meth c Z hC hZ H locs lsA hR hS hl okl oks
  have hb : b < sh.length := x_h oks
  have hn : narrow ty (.ref (base + b)) = .ref (base + b) ∧ fits ty (.ref (base + b)) = true := by
    cases ty <;> first | exact ⟨rfl, rfl⟩ | cases hty
  exact x_putW (ν' := upr ν a f (some b)) (μ' := μ) hC hR hS d hf hfi hs hn.1 hn.2 upr_o (fun _ _ => rfl) (fun j hj => upr_k hj a) (fun _ _ => rfl) (by rw [upr_s, xF_R hty]; rfl) (xOKh_nu hR.2.2 (fun c hc => by cases hc; exact hb)) fun H1 locs1 hR1 hS1 => K D cy base p l e s m args below meth c Z hC hZ H1 locs1 lsA hR1 hS1 hl okl (x_t (x_t oks))
theorem X.alen {a t N : Nat} (d : decode M.2.1 pc = .ok (.arraylength, 1)) (hs : sh[a]? = some (t, N)) (ht : t ≤ 5) (hN : N ≤ 2147483647) (K : X M (pc + 1) ls (vI N :: st) sh ν μ k n Q) : X M pc ls (vR a :: st) sh ν μ k n Q := by
  intro D cy base p l e s m args below meth c Z hC hZ H locs lsA hR hS hl okl oks
  have K2 := K D cy base p l e s m args below meth c Z hC hZ H locs lsA hR hS hl okl (x_cI (by unfold xi32; omega) (x_t oks))
  have hg := xW_get (cy := cy) (base := base) (ν := ν) (μ := μ) hs
  have hN2 : Int32.ofNat N = Int32.ofInt (N : Int) := (Int32.ofInt_eq_ofNat).symm
  match t, ht with
  | 0, _ => exact va_alen hC.1 hC.2.1 hC.2.2.2.2.2.2.1 hR.2.1 a 0 hg (ty := .int) rfl hN2 d K2
  | 1, _ => exact va_alen hC.1 hC.2.1 hC.2.2.2.2.2.2.1 hR.2.1 a 1 hg (ty := .long) rfl hN2 d K2
  | 2, _ => exact va_alen hC.1 hC.2.1 hC.2.2.2.2.2.2.1 hR.2.1 a 2 hg (ty := .byte) rfl hN2 d K2
  | 3, _ => exact va_alen hC.1 hC.2.1 hC.2.2.2.2.2.2.1 hR.2.1 a 3 hg (ty := .boolean) rfl hN2 d K2
  | 4, _ => exact va_alen hC.1 hC.2.1 hC.2.2.2.2.2.2.1 hR.2.1 a 4 hg (ty := .object RX7) rfl hN2 d K2
  | 5, _ => exact va_alen hC.1 hC.2.1 hC.2.2.2.2.2.2.1 hR.2.1 a 5 hg (ty := .array .int) rfl hN2 d K2
theorem X.iaload {a N : Nat} {i : Int} (d : decode M.2.1 pc = .ok (.iaload, 1)) (hs : sh[a]? = some (0, N)) (hi : 0 ≤ i ∧ i < N) (K : X M (pc + 1) ls (vI (μ a i.toNat) :: st) sh ν μ k n Q) : X M pc ls (vI i :: vR a :: st) sh ν μ k n Q := by
  intro D cy base p l e s m args below meth c Z hC hZ H locs lsA hR hS hl okl oks
  obtain ⟨h1, h2⟩ := xN_i hi.1 hi.2 (x_hI oks)
  have hg := xOKh_refl hR.2.2 hs i.toNat
  have K2 := K D cy base p l e s m args below meth c Z hC hZ H locs lsA hR hS hl okl (x_cI hg (x_t (x_t oks)))
  exact va_iald hC.1 hC.2.1 hC.2.2.2.2.2.2.1 hR.2.1 a 0 (xW_get hs) rfl h1 d (by rw [h2]; exact K2)
theorem X.laload {a N : Nat} {i : Int} (d : decode M.2.1 pc = .ok (.laload, 1)) (hs : sh[a]? = some (1, N)) (hi : 0 ≤ i ∧ i < N) (K : X M (pc + 1) ls (vL (μ a i.toNat) :: st) sh ν μ k n Q) : X M pc ls (vI i :: vR a :: st) sh ν μ k n Q := by
  intro D cy base p l e s m args below meth c Z hC hZ H locs lsA hR hS hl okl oks
  obtain ⟨h1, h2⟩ := xN_i hi.1 hi.2 (x_hI oks)
  have hg := xOKh_refl hR.2.2 hs i.toNat
  have K2 := K D cy base p l e s m args below meth c Z hC hZ H locs lsA hR hS hl okl (x_cL hg (x_t (x_t oks)))
  exact va_lald hC.1 hC.2.1 hC.2.2.2.2.2.2.1 hR.2.1 a 1 (xW_get hs) rfl h1 d (by rw [h2]; exact K2)
theorem X.baload {a N : Nat} {i : Int} (d : decode M.2.1 pc = .ok (.baload, 1)) (hs : sh[a]? = some (2, N)) (hi : 0 ≤ i ∧ i < N) (K : X M (pc + 1) ls (vI (μ a i.toNat) :: st) sh ν μ k n Q) : X M pc ls (vI i :: vR a :: st) sh ν μ k n Q := by
  intro D cy base p l e s m args below meth c Z hC hZ H locs lsA hR hS hl okl oks
  obtain ⟨h1, h2⟩ := xN_i hi.1 hi.2 (x_hI oks)
  have hg : -128 ≤ μ a i.toNat ∧ μ a i.toNat ≤ 127 := xOKh_refl hR.2.2 hs i.toNat
  have K2 := K D cy base p l e s m args below meth c Z hC hZ H locs lsA hR hS hl okl (x_cI (by unfold xi32; omega) (x_t (x_t oks)))
  exact va_bald hC.1 hC.2.1 hC.2.2.2.2.2.2.1 hR.2.1 a 2 (xW_get hs) rfl h1 d (by rw [h2]; exact K2)
theorem X.zaload {a N : Nat} {i : Int} (d : decode M.2.1 pc = .ok (.baload, 1)) (hs : sh[a]? = some (3, N)) (hi : 0 ≤ i ∧ i < N) (K : X M (pc + 1) ls (vI (μ a i.toNat) :: st) sh ν μ k n Q) : X M pc ls (vI i :: vR a :: st) sh ν μ k n Q := by
  intro D cy base p l e s m args below meth c Z hC hZ H locs lsA hR hS hl okl oks
  obtain ⟨h1, h2⟩ := xN_i hi.1 hi.2 (x_hI oks)
  have hg : μ a i.toNat = 0 ∨ μ a i.toNat = 1 := xOKh_refl hR.2.2 hs i.toNat
  have K2 := K D cy base p l e s m args below meth c Z hC hZ H locs lsA hR hS hl okl (x_cI (by unfold xi32; omega) (x_t (x_t oks)))
  exact va_zald hC.1 hC.2.1 hC.2.2.2.2.2.2.1 hR.2.1 a 3 (xW_get hs) rfl h1 d (by rw [h2]; exact K2)
theorem X.aaload {a b t N : Nat} {i : Int} (d : decode M.2.1 pc = .ok (.aaload, 1)) (hs : sh[a]? = some (t, N)) (ht : t = 4 ∨ t = 5) (hi : 0 ≤ i ∧ i < N) (hb : ν a i.toNat = some b) (K : X M (pc + 1) ls (vR b :: st) sh ν μ k n Q) : X M pc ls (vI i :: vR a :: st) sh ν μ k n Q := by
  intro D cy base p l e s m args below meth c Z hC hZ H locs lsA hR hS hl okl oks
  obtain ⟨h1, h2⟩ := xN_i hi.1 hi.2 (x_hI oks)
  have hg := (hR.2.2 a _ hs).2 _ b hb
  have K2 := K D cy base p l e s m args below meth c Z hC hZ H locs lsA hR hS hl okl (x_c0 (v := vR b) hg (x_t (x_t oks)))
  have hlt : (Int32.ofInt i).toNatClampNeg < N := by rw [h2]; omega
  rcases ht with rfl | rfl
  · exact W.aald (v := .ref (base + b)) (ty := .object RX7) hC.1 hC.2.1 (hR.2.1 a _ (xW_get hs)) ((hC.2.2.2.2.2.2.1.2 4 _ rfl).1 N (fun j => va_rf ((ν a j).map (base + ·)))) rfl (fun q => by cases q) (by show ¬ (_ < 0 ∨ (arrV _ _ _).slots.size ≤ _); rw [arrV_size]; exact h1) (by show (arrV _ _ _).slots[_]? = _; rw [arrV_read _ _ hlt, h2]; show some (va_rf ((ν a i.toNat).map _)) = _; rw [hb]; rfl) rfl rfl d K2
  · exact W.aald (v := .ref (base + b)) (ty := .array .int) hC.1 hC.2.1 (hR.2.1 a _ (xW_get hs)) ((hC.2.2.2.2.2.2.1.2 5 _ rfl).1 N (fun j => va_rf ((ν a j).map (base + ·)))) rfl (fun q => by cases q) (by show ¬ (_ < 0 ∨ (arrV _ _ _).slots.size ≤ _); rw [arrV_size]; exact h1) (by show (arrV _ _ _).slots[_]? = _; rw [arrV_read _ _ hlt, h2]; show some (va_rf ((ν a i.toNat).map _)) = _; rw [hb]; rfl) rfl rfl d K2
theorem x_arrI {cA : ClassId} {N j : Nat} {f f' : Nat → Int} {x : Value} {y : Int} (hx : x = .int (Int32.ofInt y)) (h1 : f' j = y) (h2 : ∀ i, i ≠ j → f' i = f i) : (vp_cell cA (N, .inl fun i => Int32.ofInt (f i))).setSlot j x = vp_cell cA (N, .inl fun i => Int32.ofInt (f' i)) := by
  subst hx
  rw [vp_cell_i, vp_cell_i, arrV_store]
  congr 1
  funext q
  by_cases hq : q = j
  · subst hq; simp [updV, h1]
  · simp [updV, hq, h2 q hq]
theorem x_arrL {cA : ClassId} {N j : Nat} {f f' : Nat → Int} {y : Int} (h1 : f' j = y) (h2 : ∀ i, i ≠ j → f' i = f i) : (vp_cell cA (N, .inr (.inl fun i => Int64.ofInt (f i)))).setSlot j (.long (Int64.ofInt y)) = vp_cell cA (N, .inr (.inl fun i => Int64.ofInt (f' i))) := by
  rw [vp_cell_l, vp_cell_l, arrV_store]
  congr 1
  funext q
  by_cases hq : q = j
  · subst hq; simp [updV, h1]
  · simp [updV, hq, h2 q hq]
theorem X.iastore {a N : Nat} {i v : Int} (d : decode M.2.1 pc = .ok (.iastore, 1)) (hs : sh[a]? = some (0, N)) (hi : 0 ≤ i ∧ i < N) (K : X M (pc + 1) ls st sh ν (up μ a i.toNat v) k n Q) : X M pc ls (vI v :: vI i :: vR a :: st) sh ν μ k n Q := by
  intro D cy base p l e s m args below meth c Z hC hZ H locs lsA hR hS hl okl oks
  obtain ⟨h1, h2⟩ := xN_i hi.1 hi.2 (x_hI (x_t oks))
  have hv : xi32 v := x_hI oks
  refine W.iast hC.1 hC.2.1 (hR.2.1 a _ (xW_get hs)) ((hC.2.2.2.2.2.2.1.2 0 _ rfl).1 N (fun j => .int (Int32.ofInt (μ a j)))) (fun q => by cases q) (by show ¬ (_ < 0 ∨ (arrV _ _ _).slots.size ≤ _); rw [arrV_size]; exact h1) rfl rfl d fun H1 e1 z oq => ?_
  refine K D cy base p l e s m args below meth c Z hC hZ H1 _ lsA (x_set1 (ν' := ν) (μ' := up μ a i.toNat v) hR hs z oq ?_ (fun _ _ => rfl) up_o (xOKh_mu hR.2.2 hs hv)) (hS.put z oq (Nat.le_add_right _ _)) hl okl (x_t (x_t (x_t oks)))
  exact e1.trans (congrArg some (x_arrI rfl (by rw [h2, up_s]) (fun j hj => up_k (by rw [← h2]; exact hj) a)))
theorem X.lastore {a N : Nat} {i v : Int} (d : decode M.2.1 pc = .ok (.lastore, 1)) (hs : sh[a]? = some (1, N)) (hi : 0 ≤ i ∧ i < N) (K : X M (pc + 1) ls st sh ν (up μ a i.toNat v) k n Q) : X M pc ls (vL v :: vI i :: vR a :: st) sh ν μ k n Q := by
  intro D cy base p l e s m args below meth c Z hC hZ H locs lsA hR hS hl okl oks
  obtain ⟨h1, h2⟩ := xN_i hi.1 hi.2 (x_hI (x_t oks))
  have hv : xi64 v := x_hL oks
  refine W.last hC.1 hC.2.1 (hR.2.1 a _ (xW_get hs)) ((hC.2.2.2.2.2.2.1.2 1 _ rfl).1 N (fun j => .long (Int64.ofInt (μ a j)))) (fun q => by cases q) (by show ¬ (_ < 0 ∨ (arrV _ _ _).slots.size ≤ _); rw [arrV_size]; exact h1) rfl rfl d fun H1 e1 z oq => ?_
  refine K D cy base p l e s m args below meth c Z hC hZ H1 _ lsA (x_set1 (ν' := ν) (μ' := up μ a i.toNat v) hR hs z oq ?_ (fun _ _ => rfl) up_o (xOKh_mu hR.2.2 hs hv)) (hS.put z oq (Nat.le_add_right _ _)) hl okl (x_t (x_t (x_t oks)))
  exact e1.trans (congrArg some (x_arrL (by rw [h2, up_s]) (fun j hj => up_k (by rw [← h2]; exact hj) a)))
theorem x_nb {v : Int} (hv : xi32 v) : narrow .byte (.int (Int32.ofInt v)) = .int (Int32.ofInt (w8 v)) := by
  show Value.int (Int32.ofInt v).toInt8.toInt32 = _
  congr 1
  have h2 : xi32 (w8 v) := by have := w8_r v; unfold xi32; omega
  exact Int32.toInt.inj (by rw [Int8.toInt_toInt32, Int32.toInt_toInt8, x32_to hv, x32_to h2]; rfl)
theorem X.bastore {a N : Nat} {i v : Int} (d : decode M.2.1 pc = .ok (.bastore, 1)) (hs : sh[a]? = some (2, N)) (hi : 0 ≤ i ∧ i < N) (K : X M (pc + 1) ls st sh ν (up μ a i.toNat (w8 v)) k n Q) : X M pc ls (vI v :: vI i :: vR a :: st) sh ν μ k n Q := by
  intro D cy base p l e s m args below meth c Z hC hZ H locs lsA hR hS hl okl oks
  obtain ⟨h1, h2⟩ := xN_i hi.1 hi.2 (x_hI (x_t oks))
  have hv : xi32 v := x_hI oks
  refine W.bast hC.1 hC.2.1 (hR.2.1 a _ (xW_get hs)) ((hC.2.2.2.2.2.2.1.2 2 _ rfl).1 N (fun j => .int (Int32.ofInt (μ a j)))) (fun q => by cases q) (by show ¬ (_ < 0 ∨ (arrV _ _ _).slots.size ≤ _); rw [arrV_size]; exact h1) rfl rfl d fun H1 e1 z oq => ?_
  refine K D cy base p l e s m args below meth c Z hC hZ H1 _ lsA (x_set1 (ν' := ν) (μ' := up μ a i.toNat (w8 v)) hR hs z oq ?_ (fun _ _ => rfl) up_o (xOKh_mu hR.2.2 hs (w8_r v))) (hS.put z oq (Nat.le_add_right _ _)) hl okl (x_t (x_t (x_t oks)))
  exact e1.trans (congrArg some (x_arrI (x_nb hv) (by rw [h2, up_s]) (fun j hj => up_k (by rw [← h2]; exact hj) a)))
theorem X.zastore {a N : Nat} {i v : Int} (d : decode M.2.1 pc = .ok (.bastore, 1)) (hs : sh[a]? = some (3, N)) (hi : 0 ≤ i ∧ i < N) (hv : v = 0 ∨ v = 1) (K : X M (pc + 1) ls st sh ν (up μ a i.toNat v) k n Q) : X M pc ls (vI v :: vI i :: vR a :: st) sh ν μ k n Q := by
  intro D cy base p l e s m args below meth c Z hC hZ H locs lsA hR hS hl okl oks
  obtain ⟨h1, h2⟩ := xN_i hi.1 hi.2 (x_hI (x_t oks))
  refine W.zast hC.1 hC.2.1 (hR.2.1 a _ (xW_get hs)) ((hC.2.2.2.2.2.2.1.2 3 _ rfl).1 N (fun j => .int (Int32.ofInt (μ a j)))) (fun q => by cases q) (by show ¬ (_ < 0 ∨ (arrV _ _ _).slots.size ≤ _); rw [arrV_size]; exact h1) rfl rfl d fun H1 e1 z oq => ?_
  refine K D cy base p l e s m args below meth c Z hC hZ H1 _ lsA (x_set1 (ν' := ν) (μ' := up μ a i.toNat v) hR hs z oq ?_ (fun _ _ => rfl) up_o (xOKh_mu hR.2.2 hs hv)) (hS.put z oq (Nat.le_add_right _ _)) hl okl (x_t (x_t (x_t oks)))
  exact e1.trans (congrArg some (x_arrI (x_nar (ty := .boolean) rfl (Or.inr hv)).1 (by rw [h2, up_s]) (fun j hj => up_k (by rw [← h2]; exact hj) a)))
end XR
