/-! what both sides stand for at the start -/
def d00 : RD := ((0, 0, 0, 0), (1, 20, 1, 20), 0, fun _ => (0, 1, false))
def S00 : ST := ((0, fun _ => d00), (0, fun _ => (0, 1, false)), (0, 0, 0, fun _ => 0, 0, fun _ => 0), newB 1 1, 0)
theorem okS_00 : okS S00 := ⟨⟨Nat.zero_le 40, fun r hr => absurd hr (Nat.not_lt_zero r)⟩, ⟨Nat.zero_le 6, fun i hi => absurd hi (Nat.not_lt_zero i)⟩, ⟨Or.inl ⟨rfl, rfl, rfl⟩, Nat.zero_le 8000, fun p hp => absurd hp.1 (by show ¬ ((p % 20 : Nat) : Int) < 0; omega)⟩, okB_new ⟨⟨by decide, by decide⟩, by decide, by decide⟩⟩
def muE (μ : Nat → Nat → Int) : Nat → Nat → Int := (up (up (up (up (up (up (up (up (up (muW μ) 259 2 0) 259 3 0) 259 4 0) 259 5 0) 262 2 0) 262 3 0) 262 4 0) 262 5 0) 0 8 0)
theorem muE_o {μ : Nat → Nat → Int} {b : Nat} (h0 : b ≠ 0) (h1 : b ≠ 249) (h2 : b ≠ 259) (h3 : b ≠ 262) : muE μ b = μ b := by
  unfold muE muW; simp (disch := omega) only [up_o']
section W0
variable {ν1 : Nat → Nat → Option Nat} {μ1 μ2 μ3 : Nat → Nat → Int}
theorem XS_00 (hF : Fr 207 ν1 μ1) (hz : zG μ1) (h2 : chA μ2 213 ∧ μ2 213 13 = 0) (e2 : ∀ b, b < 213 → μ2 b = (up (up (up μ1 207 3 0) 211 1 1) 211 2 1) b) (z2 : ∀ b, 214 < b → b ≠ 224 → b ≠ 225 → μ2 b = fun _ => 0) (h3 : chA μ3 231 ∧ μ3 231 13 = 0) (e3 : ∀ b, b < 231 → μ3 b = μ2 b) (z3 : ∀ b, 232 < b → b ≠ 242 → b ≠ 243 → μ3 b = fun _ => 0) : XS S00 259 (muE μ3) ∧ ∀ b, 265 ≤ b → muE μ3 b = fun _ => 0 := by
  have lo (b : Nat) (h0 : 0 < b) (h1 : b < 207) : muE μ3 b = μ1 b := by
    rw [muE_o (by omega) (by omega) (by omega) (by omega), e3 b (by omega), e2 b (by omega)]; simp (disch := omega) only [up_o']
  have e211 : muE μ3 211 = (up (up (up μ1 207 3 0) 211 1 1) 211 2 1) 211 := by
    rw [muE_o (by omega) (by omega) (by omega) (by omega), e3 211 (by omega), e2 211 (by omega)]
  have e212 : muE μ3 212 = fun _ => 0 := by
    rw [muE_o (by omega) (by omega) (by omega) (by omega), e3 212 (by omega), e2 212 (by omega)]; simp (disch := omega) only [up_o']; exact (hF 212 (by omega)).2
  have m2 (b : Nat) (h0 : 213 ≤ b) (h1 : b < 231) : muE μ3 b = μ2 b := by
    rw [muE_o (by omega) (by omega) (by omega) (by omega), e3 b (by omega)]
  have m3 (b : Nat) (h0 : 231 ≤ b) (h1 : b < 249) : muE μ3 b = μ3 b := muE_o (by omega) (by omega) (by omega) (by omega)
  have c0 {m : Nat → Nat → Int} {a : Nat} (hc : chA m a) (g0 : muE μ3 a = m a) (g1 : muE μ3 (a + 11) = m (a + 11)) (g2 : muE μ3 (a + 12) = m (a + 12)) (g3 : muE μ3 (a + 13) = fun _ => 0) (g4 : muE μ3 (a + 14) = fun _ => 0) : IXt (muE μ3) a (newB 1 1) (sR S00) (sN S00) := by
    refine ⟨?_, fun _ c _ => ?_⟩
    · unfold chA at *; rw [g0, g1, g2]; exact hc
    · rw [g3, g4]
      exact ⟨mk_0, rfl, fun n _ h => absurd h (mb_0 n)⟩
  refine ⟨⟨⟨?_, fun r hr => absurd hr (Nat.not_lt_zero r)⟩, ⟨?_, Nat.zero_le 6, ?_, ?_, fun i hi => absurd hi (Nat.not_lt_zero i)⟩, ⟨⟨?_, ?_, ?_, ?_⟩, fun j hj => absurd hj (Nat.not_lt_zero j), fun p _ hp => absurd hp.1 (by show ¬ ((p % 20 : Nat) : Int) < 0; omega)⟩, ⟨?_, ?_, fun p _ => ?_⟩, c0 h2.1 (m2 _ (by omega) (by omega)) (m2 _ (by omega) (by omega)) (m2 _ (by omega) (by omega)) ?_ ?_, c0 h3.1 (m3 _ (by omega) (by omega)) (m3 _ (by omega) (by omega)) (m3 _ (by omega) (by omega)) ?_ ?_, ?_⟩, fun b hb => ?_⟩
  · rw [lo 1 (by omega) (by omega)]; exact hz.1
  · rw [lo 3 (by omega) (by omega)]; exact hz.2.1
  · rw [lo 3 (by omega) (by omega)]; exact hz.2.2.1
  · rw [lo 3 (by omega) (by omega)]; exact hz.2.2.2
  · unfold muE; simp (disch := decide) only [up_s, up_a', up_k']; rfl
  · unfold muE; simp (disch := decide) only [up_s, up_a', up_k']; rfl
  · unfold muE; simp (disch := decide) only [up_s, up_a', up_k']; rfl
  · unfold muE; simp (disch := decide) only [up_s, up_a', up_k']; rfl
  · rw [e211]; simp (disch := decide) only [up_s, up_a', up_k']; rfl
  · rw [e211]; simp (disch := decide) only [up_s, up_a', up_k']; rfl
  · rw [e212]; rfl
  · rw [m2 _ (by omega) (by omega)]; exact z2 _ (by omega) (by omega) (by omega)
  · rw [m2 _ (by omega) (by omega)]; exact z2 _ (by omega) (by omega) (by omega)
  · rw [m3 _ (by omega) (by omega)]; exact z3 _ (by omega) (by omega) (by omega)
  · rw [m3 _ (by omega) (by omega)]; exact z3 _ (by omega) (by omega) (by omega)
  · unfold muE; simp (disch := decide) only [up_s]; rfl
  · rw [muE_o (by omega) (by omega) (by omega) (by omega)]; exact z3 b (by omega) (by omega) (by omega)
theorem MS_00 {μ μ' : Nat → Nat → Int} (h : ∀ b, 265 ≤ b → μ b = fun _ => 0) (hB : IMb μ' (newB 1 1)) (hf : frB μ μ') (h5 : μ' 265 50 = 0) : MS S00 μ' := by
  have g (j : Nat) (j0 : j ≠ 35) (j1 : j ≠ 36) (j2 : j ≠ 50) : μ' 265 j = 0 := by rw [hf.2 j j0 j1 j2, h 265 (by omega)]
  have g2 (b : Nat) (b0 : 293 ≤ b) (j : Nat) : μ' b j = 0 := by rw [hf.1 b (by omega) (by omega), h b (by omega)]
  refine ⟨⟨g 0 (by omega) (by omega) (by omega), fun r hr => absurd hr (Nat.not_lt_zero r)⟩, ⟨g 10 (by omega) (by omega) (by omega), fun i hi => absurd hi (Nat.not_lt_zero i)⟩, ⟨⟨g 18 (by omega) (by omega) (by omega), g 19 (by omega) (by omega) (by omega), g 20 (by omega) (by omega) (by omega), fun q => absurd rfl q⟩, fun j hj => absurd hj (Nat.not_lt_zero j), fun p _ hp => absurd hp.1 (by show ¬ ((p % 20 : Nat) : Int) < 0; omega)⟩, hB, ⟨fun j _ => ?_, Or.inl (g 49 (by omega) (by omega) (by omega)), Or.inl h5⟩, g 26 (by omega) (by omega) (by omega)⟩
  rw [g2 294 (by omega), g2 295 (by omega)]
  decide
end W0
