/-! the law's calls, one after another: what both answer is the same -/
def wv (G : LX) (i z : Int) : Int := (G.xs (i + z).toNat).toInt
def wb (G : LX) (i z : Int) : Int := if wv G i z = 0 then 0 else 1
theorem wb01 (G : LX) (i z : Int) : wb G i z = 0 ∨ wb G i z = 1 := by
  unfold wb
  by_cases h : wv G i z = 0
  · rw [if_pos h]; exact Or.inl rfl
  · rw [if_neg h]; exact Or.inr rfl
abbrev lLS (i : Int) : List (Nat × xV) := [(3, vI i), (2, vR 265), (1, vR 0)]
def Wd (S : ST) (ν : Nat → Nat → Option Nat) (μ : Nat → Nat → Int) : Prop := okS S ∧ MS S μ ∧ ∃ f s, WF SH ν f s ∧ XS S f μ
theorem LJ.nrm {G : LX} {pc pc' : Nat} {ls ls' : List (Nat × xV)} {st st' : List xV} {sh : List (Nat × Nat)} {ν : Nat → Nat → Option Nat} {μ : Nat → Nat → Int} {k n k' n' : Nat} (h1 : pc = pc') (h2 : ls = ls') (h3 : st = st') (h4 : k = k') (h5 : n = n') (K : LJ G pc' ls' st' sh ν μ k' n') : LJ G pc ls st sh ν μ k n := by
  subst h1; subst h2; subst h3; subst h4; subst h5; exact K
theorem sh_9 : SH[0]? = some (6, 9) := by decide +kernel
theorem sh_10 : SH[265]? = some (6, 10) := by decide +kernel
theorem MS_lift {μ μ' : Nat → Nat → Int} {S : ST} (h : ∀ b, 265 ≤ b → μ' b = μ b) (H : MS S μ) : MS S μ' := by
  have h0 : μ' 265 = μ 265 := h 265 (by omega)
  obtain ⟨H1, H2, H3, H4, H5, H6⟩ := H
  refine ⟨IMg_congr (by rw [h0]) (fun b b0 b1 => h b (by omega)) H1, IMc_congr (by rw [h0]) (fun b b0 b1 => h b (by omega)) H2, IMf_congr (fun j _ _ => by rw [h0]) (h _ (by omega)) (h _ (by omega)) H3, IMb_congr (by rw [h0]) (by rw [h0]) (h _ (by omega)) H4, IMt_same (h _ (by omega)) (h _ (by omega)) (h _ (by omega)) (h _ (by omega)) (by rw [h0]) (by rw [h0]) H5, ?_⟩
  rw [h0]; exact H6
theorem XS_lift {μ μ' : Nat → Nat → Int} {S : ST} {f : Nat} (h : ∀ b, b < 265 → μ' b = μ b) (hf : isFront f) (hn : sN S ≤ 40) (H : XS S f μ) : XS S f μ' := by
  have hf : f = 259 ∨ f = 262 := hf
  obtain ⟨H1, H2, H3, H4, H5, H6, H7⟩ := H
  refine ⟨IXg_congr hn (h 1 (by omega)) (fun b b0 b1 => h b (by omega)) H1, IXc_congr (fun b b0 b1 => h b (by omega)) H2, IXf_congr (h _ (by omega)) (h _ (by omega)) (h _ (by omega)) H3, IXb_congr (h _ (by omega)) (h _ (by omega)) H4, IXt_congr (fun b b0 b1 => h b (by omega)) H5, IXt_congr (fun b b0 b1 => h b (by omega)) H6, ?_⟩
  rw [h 0 (by omega)]; exact H7
section OK
variable {S : ST} {x1 x2 x3 x4 x5 : Int}
theorem okS_fill (h : okS S) : okS (oFill S x1 x2 x3).2 := by
  unfold oFill
  by_cases q : acFill (sN S) x1 x2 x3
  · rw [sl_t q]; exact ⟨okG_snoc h.1 q.2.2.2 (okR_fill q), h.2⟩
  · rw [sl_f q]; exact h
theorem okS_part (h : okS S) : okS (oPart S x1 x2 x3).2 := by
  unfold oPart
  by_cases q : acPart (sC S) x1 x2 x3
  · rw [sl_t q]; exact ⟨h.1, okC_snoc h.2.1 q, h.2.2⟩
  · rw [sl_f q]; exact h
theorem okS_split (h : okS S) : okS (oSplit S x1 x2 x3).2 := by
  unfold oSplit
  by_cases q : acSplit (sN S) (sC S) x1 x3
  · rw [sl_t q]; exact ⟨okG_snoc h.1 q.2.2.2 (okR_split h.2.1 q), ⟨Nat.zero_le 6, fun i hi => absurd hi (Nat.not_lt_zero i)⟩, h.2.2⟩
  · rw [sl_f q]; exact h
theorem okS_repeat (h : okS S) : okS (oRepeat S x1 x2 x3 x4 x5).2 := by
  unfold oRepeat
  by_cases q : acRepeat (sN S) x1 x2 x3 x5
  · rw [sl_t q]; exact ⟨okG_snoc h.1 q.2.2.2.2 (okR_repeat q), h.2⟩
  · rw [sl_f q]; exact h
theorem okS_only (h : okS S) : okS (oOnly S x1 x2 x3 x4).2 := by
  unfold oOnly
  by_cases q : acOnly (sN S) x1 x3 x4
  · rw [sl_t q]; exact ⟨okG_upd h.1 (okR_only (h.1.2 x1.toNat (by have := q.1; omega)) q.2.1 q.2.2.1 q.2.2.2), h.2⟩
  · rw [sl_f q]; exact h
theorem okS_clear (h : okS S) : okS (oClear S).2 :=
  ⟨⟨Nat.zero_le 40, fun r hr => absurd hr (Nat.not_lt_zero r)⟩, ⟨Nat.zero_le 6, fun i hi => absurd hi (Nat.not_lt_zero i)⟩, ⟨Or.inl ⟨rfl, rfl, rfl⟩, Nat.zero_le 8000, fun p hp => absurd hp.1 (by show ¬ ((p % 20 : Nat) : Int) < 0; omega)⟩, h.2.2.2⟩
theorem okS_draw (h : okS S) : okS (oDraw S x1 x2 x3).2 := by
  unfold oDraw
  by_cases q : isSc x2 x3
  · rw [sl_t q]
    by_cases q0 : (drawO (sN S) (sR S) x1 x2 x3).1 = 0
    · rw [sl_t q0]; exact ⟨h.1, h.2.1, okF_front h.1 q q0, h.2.2.2⟩
    · rw [sl_f q0]; exact h
  · rw [sl_f q]; exact h
theorem okS_take (h : okS S) : okS (oTake S).2 := by
  unfold oTake
  by_cases q : canT (sF S)
  · rw [sl_t q]; exact ⟨h.1, h.2.1, h.2.2.1, okB_take h.2.2.1 q⟩
  · rw [sl_f q]; exact h
theorem okS_board (h : okS S) : okS (oBoard S x1 x2).2 := by
  unfold oBoard
  by_cases q : isBs x1 x2
  · rw [sl_t q]; exact ⟨h.1, h.2.1, h.2.2.1, okB_new q⟩
  · rw [sl_f q]; exact h
theorem okS_put (h : okS S) : okS (oPut S x1 x2).2 := by
  unfold oPut
  by_cases q : canP (sB S) x1 x2
  · rw [sl_t q]; exact ⟨h.1, h.2.1, h.2.2.1, okB_put h.2.2.2 q.2⟩
  · rw [sl_f q]; exact h
end OK
