/-! rules: System.arraycopy of a whole row of longs; new int[n][m] -/
def cpy (μ : Nat → Nat → Int) (a0 a N : Nat) : Nat → Nat → Int := fun b j => if b = a ∧ j < N then μ a0 j else μ b j
theorem cpy_o {μ : Nat → Nat → Int} {a0 a N : Nat} : ∀ b, b ≠ a → cpy μ a0 a N b = μ b := fun b h => funext fun j => if_neg fun q => h q.1
theorem xOKh_cpy {sh : List (Nat × Nat)} {ν : Nat → Nat → Option Nat} {μ : Nat → Nat → Int} {a0 a N0 N : Nat} (h : xOKh sh ν μ) (h0 : sh[a0]? = some (1, N0)) (hs : sh[a]? = some (1, N)) : xOKh sh ν (cpy μ a0 a N) := by
  intro b t ht
  obtain ⟨h1, h2⟩ := h b t ht
  refine ⟨fun i => ?_, h2⟩
  unfold cpy
  split
  · rename_i hq
    obtain ⟨rfl, -⟩ := hq
    cases hs.symm.trans ht
    exact (h a0 _ h0).1 i
  · exact h1 i
section XR
variable {M : xM} {pc : Nat} {ls : List (Nat × xV)} {st : List xV} {sh : List (Nat × Nat)} {ν : Nat → Nat → Option Nat} {μ : Nat → Nat → Int} {k n : Nat} {Q : xQ}
theorem X.copyl {idx a0 a N : Nat} (d : decode M.2.1 pc = .ok (.invokestatic idx, 3)) (hw : Cond.methodLink M.1.cls idx arraycopyName ∈ xT) (hnat : Cond.native arraycopyName ∈ xT) (hi : Cond.static arraycopyName ∈ xT) (hini : Cond.initialized "java/lang/System" ∈ xT) (h0 : sh[a0]? = some (1, N)) (hs : sh[a]? = some (1, N)) (hN : N ≤ 2147483647) (hf : 1 ≤ M.2.2.2.2.frames) (hlo : (st.map xcat).sum + (nativeFrameWords "java/lang/System" "arraycopy" 5 + 11) ≤ M.2.2.2.2.locals)
    (K : X M (pc + 3) ls st sh ν (cpy μ a0 a N) k n Q) : X M pc ls (vI N :: vI 0 :: vR a :: vI 0 :: vR a0 :: st) sh ν μ k n Q := by
  intro D cy base p l e s m args below meth c Z hC hZ H locs lsA hR hS hl okl oks
  have hts := hC.2.2.2.2.2.1
  have hr : xi32 (N : Int) := x_hI oks
  have eN : (Int32.ofInt (N : Int)).toInt = N := x32_to hr
  have e0 : (Int32.ofInt (N : Int)).toNatClampNeg = N := by rw [← Int32.toNat_toInt, eN]; rfl
  have hn0 : ¬ Int32.ofInt (N : Int) < 0 := fun h => by have := (x32_lt hr xi32_0).mp h; omega
  have hc0 : H[base + a0]? = some (vp_cell (cy 1) (N, .inr (.inl fun i => Int64.ofInt (μ a0 i)))) := hR.2.1 a0 _ (xW_get h0)
  have hc1 : H[base + a]? = some (vp_cell (cy 1) (N, .inr (.inl fun i => Int64.ofInt (μ a i)))) := hR.2.1 a _ (xW_get hs)
  have hK := hC.2.2.2.2.2.2.1
  obtain ⟨-, k0, hk0, cm0, hkk0⟩ := (hK.2 1 _ rfl).1 N (fun j => .long (Int64.ofInt (μ a0 j)))
  obtain ⟨-, k1, hk1, cm1, hkk1⟩ := (hK.2 1 _ rfl).1 N (fun j => .long (Int64.ofInt (μ a j)))
  intro T hT X1
  obtain ⟨vm', X', step⟩ := X1.arraycopy hC.1 hC.2.2.2.2.1 (hts _ hw) (hts _ hnat) (hts _ hi) (hts _ hini) (src := base + a0) (dst := base + a) (cs := vp_cell (cy 1) (N, .inr (.inl fun i => Int64.ofInt (μ a0 i)))) (cd := vp_cell (cy 1) (N, .inr (.inl fun i => Int64.ofInt (μ a i)))) (srcPos := 0) (destPos := 0) (n := Int32.ofInt (N : Int)) (by rw [hT]; exact hc0) (by rw [hT]; exact hc1)
    (fun _ h => by cases h) (fun _ h => by cases h) (fun h => by cases h) (fun h => by cases h) hk0 hk1 hkk0 hkk1 (by simp [show refKind FieldType.long = false from rfl]) (by decide) (by decide) hn0
    (by rw [eN]; show ¬ _ > ((arrV (cy 1) N (fun j => .long (Int64.ofInt (μ a0 j)))).slots.size : Int); rw [arrV_size]; show ¬ (0 + (N : Int)) > (N : Int); omega)
    (by rw [eN]; show ¬ _ > ((arrV (cy 1) N (fun j => .long (Int64.ofInt (μ a j)))).slots.size : Int); rw [arrV_size]; show ¬ (0 + (N : Int)) > (N : Int); omega)
    (fun vm₁ _ i hi => by
      rw [e0] at hi
      have e : (vp_cell (cy 1) (N, .inr (.inl fun i => Int64.ofInt (μ a0 i)))).slots.getD ((0 : Int32).toNatClampNeg + i) .null = .long (Int64.ofInt (μ a0 i)) := by
        show (arrV (cy 1) N (fun j => .long (Int64.ofInt (μ a0 j)))).slots.getD _ _ = _
        have z : (0 : Int32).toNatClampNeg = 0 := by decide
        rw [z, Nat.zero_add, Array.getD_eq_getD_getElem?, arrV_read _ _ hi]
        rfl
      rw [e]
      exact ⟨rfl, trivial⟩)
    (g := F0 m pc lsA ((vI N :: vI 0 :: vR a :: vI 0 :: vR a0 :: st).map (xtr base))) rfl (by rw [hC.2.2.2.1]; exact hl.1) (rest := st.map (xtr base)) rfl (by rw [hC.2.1]; exact d) hf (by rw [x_catsum]; show 2 * 0 + _ + _ ≤ _; omega)
  have e1 : copied (vp_cell (cy 1) (N, .inr (.inl fun i => Int64.ofInt (μ a0 i)))) (vp_cell (cy 1) (N, .inr (.inl fun i => Int64.ofInt (μ a i)))) 0 0 (Int32.ofInt (N : Int)) = vp_cell (cy 1) (N, .inr (.inl fun i => Int64.ofInt (cpy μ a0 a N a i))) := by
    have z : (0 : Int32).toNatClampNeg = 0 := by decide
    have h := va_copied (sp := 0) (dp := 0) (n := N) (fun z => .long z) (cy 1) (cy 1) (n0 := N) (n1 := N) (fun i => Int64.ofInt (μ a0 i)) (fun i => Int64.ofInt (μ a i)) (by omega)
    have h2 : copied (vp_cell (cy 1) (N, .inr (.inl fun i => Int64.ofInt (μ a0 i)))) (vp_cell (cy 1) (N, .inr (.inl fun i => Int64.ofInt (μ a i)))) 0 0 (Int32.ofInt (N : Int)) = (arrV (cy 1) N (fun j => .long (Int64.ofInt (μ a j)))).storeRun 0 ((arrV (cy 1) N (fun j => .long (Int64.ofInt (μ a0 j)))).stretch 0 N) := by
      unfold copied
      rw [e0, z]
      rfl
    refine h2.trans ?_
    refine h.trans ?_
    rw [vp_cell_l]
    refine congrArg (arrV (cy 1) N) (funext fun i => congrArg Value.long ?_)
    unfold va_cpy cpy
    by_cases hi : i < N
    · rw [if_pos ⟨Nat.zero_le _, by omega⟩, if_pos ⟨rfl, hi⟩]
      simp
    · rw [if_neg (fun q => hi (by have := q.2; omega)), if_neg (fun q => hi q.2)]
  rw [e1] at X' step
  have hlt : base + a < H.size := (Array.getElem?_eq_some_iff.mp hc1).1
  generalize hH1 : H.setIfInBounds (base + a) (vp_cell (cy 1) (N, .inr (.inl fun i => Int64.ofInt (cpy μ a0 a N a i)))) = H1
  have hheap : ((T.setVm vm').setCell (base + a) (vp_cell (cy 1) (N, .inr (.inl fun i => Int64.ofInt (cpy μ a0 a N a i))))).heap = H1 := by rw [← hH1, ← hT]; rfl
  have z : H1.size = H.size := by rw [← hH1]; simp
  have oq : ∀ q : Nat, q ≠ base + a → H1[q]? = H[q]? := fun q hq => by rw [← hH1]; simp [Array.getElem?_setIfInBounds, Ne.symm hq]
  obtain ⟨t, a1, b1⟩ := K D cy base p l e s m args below meth c Z hC hZ H1 _ lsA (x_set1 (ν' := ν) (μ' := cpy μ a0 a N) hR hs z oq (show H1[base + a]? = some _ by rw [← hH1]; simp [Array.getElem?_setIfInBounds, hlt]) (fun _ _ => rfl) cpy_o (xOKh_cpy hR.2.2 h0 hs)) ⟨by rw [z]; exact hS.1, fun q g1 g2 => by
      rw [oq q (fun e => g2 (by rw [e]; exact Nat.le_add_right _ _))]
      exact hS.2.1 q g1 g2, fun q hq => by
      rcases List.mem_append.mp hq with h | h
      · exact hS.2.2 q h
      · obtain ⟨z, -, hz⟩ := List.mem_map.mp h
        rw [← hz]
        exact Nat.le_add_right _ _⟩ hl okl (x_t (x_t (x_t (x_t (x_t oks))))) _ hheap X'
  exact ⟨t, step t a1, b1⟩
/-- memory behind new int[N][N2] -/
def mnu (ν : Nat → Nat → Option Nat) (L N : Nat) : Nat → Nat → Option Nat := fun b j => if b = L then (if j < N then some (L + 1 + j) else none) else if L < b then none else ν b j
def mmu (μ : Nat → Nat → Int) (L : Nat) : Nat → Nat → Int := fun b j => if L ≤ b then 0 else μ b j
theorem x_outer (c : ClassId) (N h0 : Nat) : ∀ i : Nat, Jvm.Free.Multi.outerC c N h0 i = arrV c N (fun j => va_rf (if j < i then some (h0 + 1 + j) else none))
  | 0 => by
    show ({ cls := c, slots := Array.replicate N .null, vm := .none } : Cell) = _
    rw [arrV_new]
    refine congrArg (arrV c N) (funext fun j => ?_)
    simp [va_rf]
  | i + 1 => by
    show (Jvm.Free.Multi.outerC c N h0 i).setSlot i (.ref (h0 + 1 + i)) = _
    rw [x_outer c N h0 i, arrV_store]
    refine congrArg (arrV c N) (funext fun j => ?_)
    by_cases e : j = i
    · subst e
      simp [updV, va_rf]
    · by_cases h : j < i
      · simp [updV, e, h, Nat.lt_succ_of_lt h]
      · simp [updV, e, h, show ¬ j < i + 1 by omega]
theorem X.mna {idx N N2 : Nat} (d : decode M.2.1 pc = .ok (.multianewarray idx 2, 4)) (hw : Cond.classLink M.1.cls idx "[[I" ∈ xT) (hw2 : Cond.arrayClass .int ∈ xT) (hN : N ≤ 60000) (hN2 : N2 ≤ 60000) (hc : k + (1 + N) ≤ M.2.2.2.2.cells) (hsl : n + (N + N * N2) ≤ M.2.2.2.2.slots)
    (K : X M (pc + 4) ls (vR sh.length :: st) (sh ++ (5, N) :: List.replicate N (0, N2)) (mnu ν sh.length N) (mmu μ sh.length) (k + 1 + N) (n + N + N * N2) Q) : X M pc ls (vI N2 :: vI N :: st) sh ν μ k n Q := by
  intro D cy base p l e s m args below meth c Z hC hZ H locs lsA hR hS hl okl oks
  have hts := hC.2.2.2.2.2.1
  have hr : xi32 (N : Int) := by unfold xi32; omega
  have hr2 : xi32 (N2 : Int) := by unfold xi32; omega
  have e0 : (Int32.ofInt (N : Int)).toNatClampNeg = N := by rw [← Int32.toNat_toInt, x32_to hr]; rfl
  have e02 : (Int32.ofInt (N2 : Int)).toNatClampNeg = N2 := by rw [← Int32.toNat_toInt, x32_to hr2]; rfl
  have h0 : ¬ Int32.ofInt (N : Int) < 0 := fun h => by have := (x32_lt hr xi32_0).mp h; omega
  have h02 : ¬ Int32.ofInt (N2 : Int) < 0 := fun h => by have := (x32_lt hr2 xi32_0).mp h; omega
  intro T hT Xs
  obtain ⟨vm₁, cA, comp, -, fA, fC, hO, -, X', step⟩ := Xs.multianewarray2F hC.1 (ty := .int) hC.2.2.2.2.1 (hts _ hw) hC.2.2.2.2.2.2.2.2.2.2.2.1 (hts _ hw2) (g := F0 m pc lsA ((vI N2 :: vI N :: st).map (xtr base))) rfl (by rw [hC.2.1]; exact d) rfl h0 h02 (by rw [e0]; omega) (by rw [e02]; show N2 * 4 ≤ _; omega) (by rw [e02]; omega) rfl rfl (by rw [e0]; exact hc) (by rw [e0, e02]; exact hsl)
  rw [e0, e02] at X' step
  have hK := hC.2.2.2.2.2.2.1
  have hcA : cA = cy 5 := Option.some.inj (fA.symm.trans (hK.2 5 _ rfl).2)
  have hcC : comp = cy 0 := Option.some.inj (fC.symm.trans (hK.2 0 _ rfl).2)
  subst hcA
  subst hcC
  generalize hF : Jvm.Free.Multi.fill (T.setVm vm₁) (cy 5) (cy 0) N N2 (defaultValue .int) N = F at X' step
  have hTh : (T.setVm vm₁).heap = H := hT
  obtain ⟨f1, f2, -, -⟩ := Jvm.Free.Multi.fill_facts (T.setVm vm₁) (cy 5) (cy 0) N N2 (defaultValue .int) N
  rw [hF, hTh] at f1 f2
  have hold : ∀ x : Nat, x < H.size → F.heap[x]? = H[x]? := fun x hx => by
    have := Jvm.Free.Multi.fill_old (T.setVm vm₁) (cy 5) (cy 0) N N2 (defaultValue .int) (a := x) (by rw [hTh]; exact hx) N
    rw [hF, hTh] at this
    exact this
  have hrow : ∀ j : Nat, j < N → F.heap[H.size + 1 + j]? = some (arrV (cy 0) N2 (fun _ => .int 0)) := fun j hj => by
    have := Jvm.Free.Multi.fill_inner (T.setVm vm₁) (cy 5) (cy 0) N N2 (defaultValue .int) N j hj
    rw [hF, hTh] at this
    rw [this, ← arrV_new]
    rfl
  rw [x_outer] at f2
  have hlen : (sh ++ (5, N) :: List.replicate N (0, N2)).length = sh.length + 1 + N := by simp; omega
  have hν : ∀ b, b < sh.length → mnu ν sh.length N b = ν b := fun b h => funext fun j => by
    unfold mnu
    rw [if_neg (Nat.ne_of_lt h), if_neg (by omega)]
  have hμ : ∀ b, b < sh.length → mmu μ sh.length b = μ b := fun b h => funext fun j => by
    unfold mmu
    rw [if_neg (by omega)]
  have hcase : ∀ (b : Nat) (t : Nat × Nat), (sh ++ (5, N) :: List.replicate N (0, N2))[b]? = some t → (b < sh.length ∧ sh[b]? = some t) ∨ (b = sh.length ∧ t = (5, N)) ∨ (∃ j, j < N ∧ b = sh.length + 1 + j ∧ t = (0, N2)) := by
    intro b t ht
    by_cases hb : b < sh.length
    · rw [List.getElem?_append_left hb] at ht
      exact Or.inl ⟨hb, ht⟩
    · rw [List.getElem?_append_right (by omega)] at ht
      cases hq : b - sh.length with
      | zero =>
        rw [hq] at ht
        exact Or.inr (Or.inl ⟨by omega, (Option.some.inj ht).symm⟩)
      | succ j =>
        rw [hq, List.getElem?_cons_succ] at ht
        have hj : j < N := by
          have := (List.getElem?_eq_some_iff.mp ht).1
          simpa using this
        rw [List.getElem?_replicate, if_pos hj] at ht
        exact Or.inr (Or.inr ⟨j, hj, by omega, (Option.some.inj ht).symm⟩)
  have hR2 : xRep D cy base (sh ++ (5, N) :: List.replicate N (0, N2)) (mnu ν sh.length N) (mmu μ sh.length) F.heap := by
    refine ⟨by rw [f1, hlen, hR.1]; omega, fun b q hq => ?_, fun b t ht => ?_⟩
    · obtain ⟨t, ht, rfl⟩ := xW_none hq
      rcases hcase b t ht with ⟨hb, ht2⟩ | ⟨rfl, rfl⟩ | ⟨j, hj, rfl, rfl⟩
      · rw [hν b hb, hμ b hb]
        exact (hR.2.1 b _ (xW_get ht2)).kept (hold _ (by rw [hR.1]; omega))
      · show F.heap[base + sh.length]? = some (vp_cell (cy 5) (N, .inr (.inr (.inr (.inr fun i => (mnu ν sh.length N sh.length i).map (base + ·))))))
        rw [vp_cell_q]
        rw [hR.1] at f2
        rw [f2]
        congr 2
        funext i
        unfold mnu
        rw [if_pos rfl]
        by_cases hi : i < N
        · rw [if_pos hi, if_pos hi]
          show Value.ref (base + sh.length + 1 + i) = Value.ref (base + (sh.length + 1 + i))
          rw [show base + sh.length + 1 + i = base + (sh.length + 1 + i) by omega]
        · rw [if_neg hi, if_neg hi]
          rfl
      · show F.heap[base + (sh.length + 1 + j)]? = some (vp_cell (cy 0) (N2, .inl fun i => Int32.ofInt (mmu μ sh.length (sh.length + 1 + j) i)))
        have := hrow j hj
        rw [hR.1] at this
        rw [show base + (sh.length + 1 + j) = base + sh.length + 1 + j by omega, this, vp_z]
        refine congrArg some (congrArg (vp_cell (cy 0)) (Prod.ext rfl (congrArg Sum.inl (funext fun i => ?_))))
        unfold mmu
        rw [if_pos (by omega)]
    · rw [hlen]
      rcases hcase b t ht with ⟨hb, ht2⟩ | ⟨rfl, rfl⟩ | ⟨j, hj, rfl, rfl⟩
      · obtain ⟨h1, h2⟩ := hR.2.2 b t ht2
        rw [hν b hb, hμ b hb]
        exact ⟨h1, fun i c hc => by have := h2 i c hc; omega⟩
      · refine ⟨fun i => ?_, fun i c hc => ?_⟩
        · unfold mmu
          rw [if_pos (Nat.le_refl _)]
          exact xrg_0 _
        · unfold mnu at hc
          rw [if_pos rfl] at hc
          split at hc
          · cases hc; omega
          · cases hc
      · refine ⟨fun i => ?_, fun i c hc => ?_⟩
        · unfold mmu
          rw [if_pos (by omega)]
          exact xrg_0 _
        · unfold mnu at hc
          rw [if_neg (by omega), if_pos (by omega)] at hc
          cases hc
  obtain ⟨t, a1, b1⟩ := K D cy base p l e s m args below meth c Z hC hZ F.heap locs lsA hR2 (va_S_mono hS (by rw [f1]; omega) hold) hl (fun q hq => x_okup (by rw [hlen]; omega) (okl q hq)) (x_c0 (show sh.length < _ by rw [hlen]; omega) fun v hv => x_okup (by rw [hlen]; omega) (x_t (x_t oks) v hv)) F rfl X'
  refine ⟨t, step t ?_, b1⟩
  have e9 : T.heap.size = base + sh.length := by rw [hT, hR.1]
  rw [e9]
  exact a1
end XR
