/-! the class's calls on rules, 2 -/
section XRU
variable {sh : List (Nat × Nat)} {ν : Nat → Nat → Option Nat} {μ : Nat → Nat → Int} {f s : Nat} {Q : xQ} {n : Nat} {R : GR}
theorem IXg_stl {μ : Nat → Nat → Int} {n : Nat} {R : GR} (hn : n ≤ 40) (H : IXg μ n R) : IXg (stl μ) n R := IXg_congr hn (stl_o (by omega) (by omega)) (fun b _ _ => stl_o (by omega) (by omega)) H
theorem c_X9_split (hW : WF sh ν f s) {x1 x2 x3 : Int} {cn : Nat} {cp : Nat → PD} (hn : n ≤ 40) (hc : okC cn cp) (H : IXg μ n R) (Hc : IXc μ cn cp)
    (k0 : ∀ r : Int, refSplit cn x1 x3 = r → ¬ acSplit n cn x1 x3 → Q (some (vI r)) sh ν μ)
    (k1 : acSplit n cn x1 x3 → ∀ μ' : Nat → Nat → Int, IXg μ' (n + 1) (snoc R n (dSplit x1 x2 x3 cn cp)) → IXc μ' 0 cp → frX n μ μ' → Q (some (vI (n : Nat))) sh ν μ') : X mX9_split 0 [(0, vR 0), (1, vI x1), (2, vI x2), (3, vI x3)] [] sh ν μ 0 0 Q := by
  have e := H.1
  have ec : μ 3 3 = cn := Hc.1
  unfold acSplit at k0 k1
  refine g_X9_split_0 hW ⟨fun h1 => ⟨fun h3 => ⟨fun hcn => ⟨fun h4 => ?_, fun h4 => k0 _ ?_ (by omega)⟩, fun hcn => k0 _ ?_ (by omega)⟩, fun h3 => k0 _ ?_ (by omega)⟩, fun h1 => k0 _ ?_ (by omega)⟩
  · have hn2 : n < 40 := by omega
    refine c_X3_addSplit hW hn2 hc (IXg_stl hn H) (IXc_congr (fun b _ _ => stl_o (by omega) (by omega)) Hc) fun μ' g1 g2 g3 => ?_
    exact g_X9_split_62 hW (k1 ⟨h1, h3, by omega, hn2⟩ μ' g1 g2 (frX_of rfl g3 hn))
  · unfold refSplit; (repeat' split) <;> first | rfl | omega
  · unfold refSplit; (repeat' split) <;> first | rfl | omega
  · unfold refSplit; (repeat' split) <;> first | rfl | omega
  · unfold refSplit; (repeat' split) <;> first | rfl | omega
theorem c_X9_repeat (hW : WF sh ν f s) {x1 x2 x3 x4 x5 : Int} (hn : n ≤ 40) (H : IXg μ n R)
    (k0 : ∀ r : Int, refRepeat x1 x2 x3 x5 = r → ¬ acRepeat n x1 x2 x3 x5 → Q (some (vI r)) sh ν μ)
    (k1 : acRepeat n x1 x2 x3 x5 → ∀ μ' : Nat → Nat → Int, IXg μ' (n + 1) (snoc R n (dRepeat x1 x2 x3 x4 x5)) → frX n μ μ' → (∀ b, 3 ≤ b → b ≤ 6 → μ' b = μ b) → Q (some (vI (n : Nat))) sh ν μ') : X mX9_repeat 0 [(0, vR 0), (1, vI x1), (2, vI x2), (3, vI x3), (4, vI x4), (5, vI x5)] [] sh ν μ 0 0 Q := by
  have e := H.1
  unfold acRepeat at k0 k1
  refine g_X9_repeat_0 hW ⟨fun h1 => k0 _ ?_ (by omega), fun h1 => ⟨fun h2 => ⟨fun h3 => k0 _ ?_ (by omega), fun h3 => ⟨fun h5 => ⟨fun h4 => ?_, fun h4 => k0 _ ?_ (by omega)⟩, fun h5 => k0 _ ?_ (by omega)⟩⟩, fun h2 => k0 _ ?_ (by omega)⟩⟩
  · unfold refRepeat; (repeat' split) <;> first | rfl | omega
  · unfold refRepeat; (repeat' split) <;> first | rfl | omega
  · have hn2 : n < 40 := by omega
    refine c_X3_addRepeat hW h2 h3 hn2 (IXg_stl hn H) fun μ' g1 g3 => ?_
    exact g_X9_repeat_68 hW (k1 ⟨h1, h2, h3, h5, hn2⟩ μ' g1 (frX_of rfl (fun b b1 _ b3 => g3 b b1 b3) hn) fun b b1 b2 => (g3 b (by omega) (by omega)).trans (stl_o (by omega) (by omega)))
  · unfold refRepeat; (repeat' split) <;> first | rfl | omega
  · unfold refRepeat; (repeat' split) <;> first | rfl | omega
  · unfold refRepeat; (repeat' split) <;> first | rfl | omega
theorem IXg_upd {μ μ' : Nat → Nat → Int} {n r0 : Nat} {R : GR} {d : RD} (h1 : μ' 1 2 = n) (hf : ∀ b, 7 ≤ b → b < 207 → ¬ (7 + 5 * r0 ≤ b ∧ b < 7 + 5 * r0 + 5) → μ' b = μ b) (hn : n ≤ 40) (hd : atR μ' (7 + 5 * r0) d) (H : IXg μ n R) : IXg μ' n (upd1 R r0 d) := by
  refine ⟨h1, fun r hr => ?_⟩
  unfold upd1
  by_cases h : r = r0
  · subst h; rw [if_pos rfl]; exact hd
  · rw [if_neg h]
    exact atR_congr (fun b hb hb2 => hf b (by omega) (by omega) (by omega)) (H.2 r hr)
theorem c_X9_only (hW : WF sh ν f s) {x1 x2 x3 x4 : Int} (hn : n ≤ 40) (H : IXg μ n R)
    (k0 : ∀ r : Int, refOnly n x1 = r → ¬ acOnly n x1 x3 x4 → Q (some (vI r)) sh ν μ)
    (k1 : acOnly n x1 x3 x4 → ∀ μ' : Nat → Nat → Int, IXg μ' n (upd1 R x1.toNat (dOnly (R x1.toNat) x2 x3 x4)) → frX x1.toNat μ μ' → (∀ b, 3 ≤ b → b ≤ 6 → μ' b = μ b) → Q (some (vI 1)) sh ν μ') : X mX9_only 0 [(0, vR 0), (1, vI x1), (2, vI x2), (3, vI x3), (4, vI x4)] [] sh ν μ 0 0 Q := by
  have e := H.1
  unfold acOnly at k0 k1
  refine g_X9_only_0 hW ⟨fun h1 => ⟨fun h3 => k0 _ ?_ (by omega), fun h3 => ⟨fun h4 => k0 _ ?_ (by omega), fun h4 => ⟨fun h5 => ⟨by omega, fun h6 => ?_, fun h6 => ?_⟩, fun h5 => k0 _ ?_ (by omega)⟩⟩⟩, fun h1 => k0 _ ?_ (by omega)⟩
  · unfold refOnly; rw [if_pos (by omega)]
  · unfold refOnly; rw [if_pos (by omega)]
  · have hr := H.2 x1.toNat (by omega)
    obtain ⟨q1, q2, q3⟩ := hr
    refine k1 (by omega) _ (IXg_upd ?_ (fun b b1 b2 b3 => ?_) hn ⟨?_, ?_, atP_congr (fun b b1 b2 => ?_) (fun _ _ => rfl) q3⟩ H) ⟨fun b b1 b2 b3 b4 b5 => ?_, fun j hj => ⟨?_, ?_⟩, ?_, ?_⟩ fun b b1 b2 => ?_
    · simp (disch := omega) only [up_a']; exact e
    · simp (disch := omega) only [up_o']
    · simp (disch := omega) only [up_s, up_a', up_k']; exact q1
    · simp (disch := omega) only [up_s, up_a', up_k']
      unfold dOnly
      rw [if_pos h6]
      exact ⟨rfl, rfl, q2.2.2.1, q2.2.2.2⟩
    · simp (disch := omega) only [up_o']
    · simp (disch := omega) only [up_o']
    · simp (disch := omega) only [up_s, up_a', up_k']
    · simp (disch := omega) only [up_s, up_a', up_k']
    · simp (disch := omega) only [up_s, up_a', up_k']
    · simp (disch := omega) only [up_s, up_a', up_k']
    · simp (disch := omega) only [up_o']
  · have hr := H.2 x1.toNat (by omega)
    obtain ⟨q1, q2, q3⟩ := hr
    refine k1 (by omega) _ (IXg_upd ?_ (fun b b1 b2 b3 => ?_) hn ⟨?_, ?_, atP_congr (fun b b1 b2 => ?_) (fun _ _ => rfl) q3⟩ H) ⟨fun b b1 b2 b3 b4 b5 => ?_, fun j hj => ⟨?_, ?_⟩, ?_, ?_⟩ fun b b1 b2 => ?_
    · simp (disch := omega) only [up_a']; exact e
    · simp (disch := omega) only [up_o']
    · simp (disch := omega) only [up_s, up_a', up_k']; exact q1
    · simp (disch := omega) only [up_s, up_a', up_k']
      unfold dOnly
      rw [if_neg h6]
      exact ⟨q2.1, q2.2.1, rfl, rfl⟩
    · simp (disch := omega) only [up_o']
    · simp (disch := omega) only [up_o']
    · simp (disch := omega) only [up_s, up_a', up_k']
    · simp (disch := omega) only [up_s, up_a', up_k']
    · simp (disch := omega) only [up_s, up_a', up_k']
    · simp (disch := omega) only [up_s, up_a', up_k']
    · simp (disch := omega) only [up_o']
  · unfold refOnly; rw [if_pos (by omega)]
  · unfold refOnly; rw [if_neg (by omega)]
/-- what a rule answers to 'what' -/
def ruleF (n : Nat) (R : GR) (x1 x2 : Int) : Int := if 0 ≤ x1 ∧ x1 < n then (if x2 = 0 then rn (R x1.toNat) else if x2 = 1 then rk (R x1.toNat) else if x2 = 2 then rc (R x1.toNat) else if x2 = 3 then (rm (R x1.toNat) : Int) else if x2 = 4 then rl (R x1.toNat) else -2) else -1
theorem c_X9_rule (hW : WF sh ν f s) {x1 x2 : Int} (hn : n ≤ 40) (H : IXg μ n R) (k : Q (some (vI (ruleF n R x1 x2))) sh ν μ) : X mX9_rule 0 [(0, vR 0), (1, vI x1), (2, vI x2)] [] sh ν μ 0 0 Q := by
  have e := H.1
  unfold ruleF at k
  refine g_X9_rule_0 hW ⟨fun h1 => ?_, fun h1 => by rw [if_neg (by omega)] at k; exact k⟩
  rw [if_pos (by omega)] at k
  obtain ⟨⟨q1, q2, q3, q4⟩, -, q5⟩ := H.2 x1.toNat (by omega)
  refine ⟨by omega, fun h => ?_, fun h => ?_, fun h => ?_, fun h => ?_, fun h => ?_, fun h => ?_⟩
  · rw [q1]; rw [if_pos h] at k; exact k
  · rw [q2]; rw [if_neg (by omega), if_pos h] at k; exact k
  · rw [q3]; rw [if_neg (by omega), if_neg (by omega), if_pos h] at k; exact k
  · rw [q5.1]; rw [if_neg (by omega), if_neg (by omega), if_neg (by omega), if_pos h] at k; exact k
  · rw [q4]; rw [if_neg (by omega), if_neg (by omega), if_neg (by omega), if_neg (by omega), if_pos h] at k; exact k
  · rw [if_neg (by omega), if_neg (by omega), if_neg (by omega), if_neg (by omega), if_neg (by omega)] at k; exact k
theorem c_X9_clear (hW : WF sh ν f s) (hn : n ≤ 40) (H : IXg μ n R)
    (k : ∀ μ' : Nat → Nat → Int, IXg μ' 0 R → IXc μ' 0 (fun _ => (0, 1, false)) → (∀ b, b ≠ 1 → b ≠ 3 → b ≠ f → b ≠ 213 → b ≠ 231 → μ' b = μ b) → (∀ j, j ≠ 13 → μ' 213 j = μ 213 j ∧ μ' 231 j = μ 231 j) → μ' 213 13 = 1 → μ' 231 13 = 1 → μ' f 2 = 0 → μ' f 3 = 0 → μ' f 4 = 0 → μ' f 5 = 0 → Q (some (vI (n : Nat))) sh ν μ') : X mX9_clear 0 [(0, vR 0)] [] sh ν μ 0 0 Q := by
  have hf : f = 259 ∨ f = 262 := wf_f hW
  refine g_X9_clear_0 hW ?_
  rw [H.1]
  refine k _ ⟨?_, fun r hr => absurd hr (Nat.not_lt_zero r)⟩ ⟨?_, Nat.zero_le _, ?_, ?_, fun i hi => absurd hi (Nat.not_lt_zero i)⟩ (fun b b1 b2 b3 b4 b5 => ?_) (fun j hj => ⟨?_, ?_⟩) ?_ ?_ ?_ ?_ ?_ ?_
  all_goals first | (simp (disch := omega) only [up_s, up_a', up_k', up_o']; done) | (simp (disch := omega) only [up_s, up_a', up_k', up_o']; rfl)
end XRU
