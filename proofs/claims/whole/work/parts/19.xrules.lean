/-! the class's calls on rules -/
/-- what a call that changes the rules leaves as it was -/
def frX (n : Nat) (μ μ' : Nat → Nat → Int) : Prop := (∀ b, b ≠ 1 → b ≠ 213 → b ≠ 231 → ¬ (3 ≤ b ∧ b ≤ 6) → ¬ (7 + 5 * n ≤ b ∧ b < 7 + 5 * n + 5) → μ' b = μ b) ∧ (∀ j, j ≠ 13 → μ' 213 j = μ 213 j ∧ μ' 231 j = μ 231 j) ∧ μ' 213 13 = 1 ∧ μ' 231 13 = 1
def stl (μ : Nat → Nat → Int) : Nat → Nat → Int := up (up μ 213 13 1) 231 13 1
def dFill (x1 x2 x3 : Int) : RD := ((x1, 0, x3, x2), (1, 20, 1, 20), 0, fun _ => (0, 1, false))
def dSplit (x1 x2 x3 : Int) (cn : Nat) (cp : Nat → PD) : RD := ((x1, if x2 = 0 then 1 else 2, x3, -9), (1, 20, 1, 20), cn, cp)
def dRepeat (x1 x2 x3 x4 x5 : Int) : RD := ((x1, if x4 = 0 then 3 else 4, x5, -9), (1, 20, 1, 20), 1, fun _ => (x2, x3, false))
theorem IXg_snoc {μ μ' : Nat → Nat → Int} {n : Nat} {R : GR} {d : RD} (h1 : μ' 1 2 = (n + 1 : Nat)) (hf : ∀ b, 7 ≤ b → b < 7 + 5 * n → μ' b = μ b) (hd : atR μ' (7 + 5 * n) d) (H : IXg μ n R) : IXg μ' (n + 1) (snoc R n d) := by
  refine ⟨h1, fun r hr => ?_⟩
  by_cases h : r = n
  · subst h; rw [snoc_n]; exact hd
  · rw [snoc_l (by omega)]
    exact atR_congr (fun b hb hb2 => hf b (by omega) (by omega)) (H.2 r (by omega))
def refFill (x1 x2 x3 : Int) : Int := if 0 ≤ x1 ∧ x1 ≤ 7 then (if (0 ≤ x2 ∧ x2 ≤ 25) ∧ 0 ≤ x3 ∧ x3 ≤ 99 then -4 else -2) else -1
def refPart (x1 x2 x3 : Int) : Int := if 0 ≤ x1 ∧ x1 ≤ 7 then (if 1 ≤ x2 ∧ x2 ≤ (if x3 = 0 then 20 else 9) then -4 else -2) else -1
def refSplit (cn : Nat) (x1 x3 : Int) : Int := if 0 ≤ x1 ∧ x1 ≤ 7 then (if 0 ≤ x3 ∧ x3 ≤ 99 then (if cn = 0 then -3 else -4) else -2) else -1
def refRepeat (x1 x2 x3 x5 : Int) : Int := if (0 ≤ x1 ∧ x1 ≤ 7) ∧ 0 ≤ x2 ∧ x2 ≤ 7 then (if (1 ≤ x3 ∧ x3 ≤ 20) ∧ 0 ≤ x5 ∧ x5 ≤ 99 then -4 else -2) else -1
def refOnly (n : Nat) (x1 : Int) : Int := if 0 ≤ x1 ∧ x1 < n then -2 else -1
def acFill (n : Nat) (x1 x2 x3 : Int) : Prop := (0 ≤ x1 ∧ x1 ≤ 7) ∧ (0 ≤ x2 ∧ x2 ≤ 25) ∧ (0 ≤ x3 ∧ x3 ≤ 99) ∧ n < 40
def acPart (cn : Nat) (x1 x2 x3 : Int) : Prop := (0 ≤ x1 ∧ x1 ≤ 7) ∧ (1 ≤ x2 ∧ x2 ≤ (if x3 = 0 then 20 else 9)) ∧ cn < 6
def acSplit (n cn : Nat) (x1 x3 : Int) : Prop := (0 ≤ x1 ∧ x1 ≤ 7) ∧ (0 ≤ x3 ∧ x3 ≤ 99) ∧ cn ≠ 0 ∧ n < 40
def acRepeat (n : Nat) (x1 x2 x3 x5 : Int) : Prop := (0 ≤ x1 ∧ x1 ≤ 7) ∧ (0 ≤ x2 ∧ x2 ≤ 7) ∧ (1 ≤ x3 ∧ x3 ≤ 20) ∧ (0 ≤ x5 ∧ x5 ≤ 99) ∧ n < 40
def acOnly (n : Nat) (x1 x3 x4 : Int) : Prop := (0 ≤ x1 ∧ x1 < n) ∧ 1 ≤ x3 ∧ x3 ≤ x4 ∧ x4 ≤ 20
/-- a rule that holds from .. to alone -/
def dOnly (d : RD) (high : Int) (a b : Int) : RD := (d.1, (if high = 0 then (a, b, rfh d, rth d) else (rfw d, rtw d, a, b)), d.2.2)
def upd1 {α : Type} (f : Nat → α) (n : Nat) (v : α) : Nat → α := fun i => if i = n then v else f i
theorem frX_of {n : Nat} {μ m μ' : Nat → Nat → Int} (hm : m = stl μ) (hf : ∀ b, b ≠ 1 → ¬ (3 ≤ b ∧ b ≤ 6) → ¬ (7 + 5 * n ≤ b ∧ b < 7 + 5 * n + 5) → μ' b = m b) (hn : n ≤ 40) : frX n μ μ' := by
  subst hm
  refine ⟨fun b b1 b2 b3 b4 b5 => ?_, fun j hj => ⟨?_, ?_⟩, ?_, ?_⟩
  · rw [hf b b1 b4 b5]; unfold stl; simp (disch := omega) only [up_o']
  · rw [hf 213 (by omega) (by omega) (by omega)]; unfold stl; simp (disch := omega) only [up_s, up_a', up_k']
  · rw [hf 231 (by omega) (by omega) (by omega)]; unfold stl; simp (disch := omega) only [up_s, up_a', up_k']
  · rw [hf 213 (by omega) (by omega) (by omega)]; unfold stl; simp (disch := omega) only [up_s, up_a', up_k']
  · rw [hf 231 (by omega) (by omega) (by omega)]; unfold stl; simp (disch := omega) only [up_s, up_a', up_k']
theorem stl_o {μ : Nat → Nat → Int} {b : Nat} (h1 : b ≠ 213) (h2 : b ≠ 231) : stl μ b = μ b := by unfold stl; simp (disch := omega) only [up_o']
section XRU
variable {sh : List (Nat × Nat)} {ν : Nat → Nat → Option Nat} {μ : Nat → Nat → Int} {f s : Nat} {Q : xQ} {n : Nat} {R : GR}
theorem c_X3_addFill (hW : WF sh ν f s) {x1 x2 x3 : Int} (hn : n < 40) (H : IXg μ n R) (k : ∀ μ' : Nat → Nat → Int, IXg μ' (n + 1) (snoc R n (dFill x1 x2 x3)) → (∀ b, b ≠ 1 → ¬ (7 + 5 * n ≤ b ∧ b < 7 + 5 * n + 5) → μ' b = μ b) → Q (some (vI (n : Nat))) sh ν μ') : X mX3_addFill 0 [(0, vR 1), (1, vI x1), (2, vI x2), (3, vI x3)] [] sh ν μ 0 0 Q := by
  refine g_X3_addFill_0 hW ⟨fun _ => ?_, fun h => absurd h (by rw [H.1]; omega)⟩
  rw [H.1, Int.toNat_natCast, wi1 (by omega)]
  refine ⟨by omega, by omega, k _ (IXg_snoc ?_ (fun b h1 h2 => ?_) ⟨⟨?_, ?_, ?_, ?_⟩, ⟨?_, ?_, ?_, ?_⟩, ?_, Nat.zero_le _, ?_, ?_, fun i hi => absurd hi (Nat.not_lt_zero i)⟩ H) fun b hb hb2 => ?_⟩
  all_goals first | (simp (disch := omega) only [up_s, up_a', up_k', up_o']; done) | (simp (disch := omega) only [up_s, up_a', up_k', up_o']; rfl)
theorem c_X9_fill (hW : WF sh ν f s) {x1 x2 x3 : Int} (hn : n ≤ 40) (H : IXg μ n R)
    (k0 : ∀ r : Int, refFill x1 x2 x3 = r → ¬ acFill n x1 x2 x3 → Q (some (vI r)) sh ν μ)
    (k1 : acFill n x1 x2 x3 → ∀ μ' : Nat → Nat → Int, IXg μ' (n + 1) (snoc R n (dFill x1 x2 x3)) → frX n μ μ' → (∀ b, 3 ≤ b → b ≤ 6 → μ' b = μ b) → Q (some (vI (n : Nat))) sh ν μ') : X mX9_fill 0 [(0, vR 0), (1, vI x1), (2, vI x2), (3, vI x3)] [] sh ν μ 0 0 Q := by
  have e := H.1
  unfold acFill at k0 k1
  refine g_X9_fill_0 hW ⟨fun h1 => ⟨fun h2 => k0 _ ?_ (by omega), fun h2 => ⟨fun h3 => ⟨fun h4 => ?_, fun h4 => k0 _ ?_ (by omega)⟩, fun h3 => k0 _ ?_ (by omega)⟩⟩, fun h1 => k0 _ ?_ (by omega)⟩
  · unfold refFill; (repeat' split) <;> first | rfl | omega
  · have hn2 : n < 40 := by omega
    have H2 : IXg (stl μ) n R := IXg_congr hn (stl_o (by omega) (by omega)) (fun b _ _ => by first | exact stl_o (by omega) (by omega)) H
    refine c_X3_addFill hW hn2 H2 fun μ' g1 g2 => ?_
    exact g_X9_fill_56 hW (k1 ⟨h1, h2, h3, hn2⟩ μ' g1 (frX_of rfl (fun b b1 b2 b3 => g2 b b1 b3) hn) fun b b1 b2 => (g2 b (by omega) (by omega)).trans (stl_o (by omega) (by omega)))
  · unfold refFill; (repeat' split) <;> first | rfl | omega
  · unfold refFill; (repeat' split) <;> first | rfl | omega
  · unfold refFill; (repeat' split) <;> first | rfl | omega
theorem c_X9_part (hW : WF sh ν f s) {x1 x2 x3 : Int} {cn : Nat} {cp : Nat → PD} (hc : okC cn cp) (H : IXc μ cn cp)
    (k0 : ∀ r : Int, refPart x1 x2 x3 = r → ¬ acPart cn x1 x2 x3 → Q (some (vI r)) sh ν μ)
    (k1 : acPart cn x1 x2 x3 → ∀ μ' : Nat → Nat → Int, IXc μ' (cn + 1) (snoc cp cn (x1, x2, !(decide (x3 = 0)))) → (∀ b, ¬ (3 ≤ b ∧ b ≤ 6) → μ' b = μ b) → Q (some (vI ((cn + 1 : Nat) : Int))) sh ν μ') : X mX9_part 0 [(0, vR 0), (1, vI x1), (2, vI x2), (3, vI x3)] [] sh ν μ 0 0 Q := by
  have e : μ 3 3 = cn := H.1
  have c6 := hc.1
  unfold acPart at k0 k1
  have last : (0 ≤ x1 ∧ x1 ≤ 7) → (1 ≤ x2 ∧ x2 ≤ (if x3 = 0 then 20 else 9)) → cn < 6 → ∀ y2 y3 : Int, y2 = psz (x1, x2, !(decide (x3 = 0))) → y3 = pshr (x1, x2, !(decide (x3 = 0))) → X mX9_part 75 [(0, vR 0)] [vI y3, vI y2, vI x1, vR 3] sh ν μ 0 0 Q := by
    intro h1 h2 h3 y2 y3 e2 e3
    refine g_X9_part_75 hW mk_coll ?_
    refine c_X6_add hW mk_coll H h3 (p := (x1, x2, !(decide (x3 = 0)))) rfl e2 e3 ⟨h1, h2.1, ?_, fun q => ?_⟩ hc.2 fun μ' g1 g2 => ?_
    · have := h2.2
      show x2 ≤ 20
      split at this <;> omega
    · have h4 := h2.2
      rw [if_neg (by simpa using q)] at h4
      exact h4
    · refine g_X9_part_78 hW ?_
      rw [g1.1]
      exact k1 ⟨h1, h2, h3⟩ μ' g1 fun b hb => g2 b (by omega) (by omega) (by omega) (by omega)
  have mid : (0 ≤ x1 ∧ x1 ≤ 7) → ∀ y2 : Int, y2 = (if x3 = 0 then 20 else 9) → X mX9_part 22 [(0, vR 0), (1, vI x1), (2, vI x2), (3, vI x3)] [vI y2, vI 1, vI x2] sh ν μ 0 0 Q := by
    intro h1 y2 e2
    refine g_X9_part_22 hW ⟨fun h2 => ⟨fun h3 => ⟨fun h4 => ?_, fun h4 => ?_⟩, fun h3 => k0 _ ?_ (by omega)⟩, fun h2 => k0 _ ?_ (by rw [← e2]; omega)⟩
    · refine g_X9_part_66 hW mk_coll ⟨fun _ => last h1 (by rw [← e2]; exact h2) (by omega) _ _ ?_ ?_, fun q => absurd h4 q⟩
      · simp [psz, h4]
      · simp [pshr, h4]
    · refine g_X9_part_66 hW mk_coll ⟨fun q => absurd q h4, fun _ => last h1 (by rw [← e2]; exact h2) (by omega) _ _ ?_ ?_⟩
      · simp [psz, h4]
      · simp [pshr, h4]
    · unfold refPart; rw [if_pos h1, ← e2, if_pos h2]
    · unfold refPart; rw [if_pos h1, ← e2, if_neg h2]
  refine g_X9_part_0 hW ⟨fun h1 => ⟨fun h2 => mid h1 _ (by rw [if_pos h2]), fun h2 => mid h1 _ (by rw [if_neg h2])⟩, fun h1 => k0 _ (by unfold refPart; rw [if_neg h1]) (by omega)⟩
theorem c_X3_addSplit (hW : WF sh ν f s) {x1 x2 x3 : Int} {cn : Nat} {cp : Nat → PD} (hn : n < 40) (hc : okC cn cp) (H : IXg μ n R) (Hc : IXc μ cn cp) (k : ∀ μ' : Nat → Nat → Int, IXg μ' (n + 1) (snoc R n (dSplit x1 x2 x3 cn cp)) → IXc μ' 0 cp → (∀ b, b ≠ 1 → ¬ (3 ≤ b ∧ b ≤ 6) → ¬ (7 + 5 * n ≤ b ∧ b < 7 + 5 * n + 5) → μ' b = μ b) → Q (some (vI (n : Nat))) sh ν μ') : X mX3_addSplit 0 [(0, vR 1), (1, vI x1), (2, vI x2), (3, vI x3)] [] sh ν μ 0 0 Q := by
  have e := H.1
  have mk : isRule (7 + 5 * n) := ⟨n, hn, rfl⟩
  have go : ∀ y2 : Int, y2 = (if x2 = 0 then 1 else 2) → X mX3_addSplit 29 [(0, vR 1), (3, vI x3)] [vI y2, vI x1, vR (7 + 5 * n)] sh ν μ 0 0 Q := by
    intro y2 e2
    refine g_X3_addSplit_29 hW mk ?_
    have e12 : up (up (up (up (up (up (up (up (up (up (up μ (7 + 5 * n) 1 x1) (7 + 5 * n) 2 y2) (7 + 5 * n) 3 x3) (7 + 5 * n) 4 (-9)) (7 + 5 * n + 1) 3 0) (7 + 5 * n + 1) 4 0) (7 + 5 * n + 1) 5 0) (7 + 5 * n) 5 1) (7 + 5 * n) 6 20) (7 + 5 * n) 7 1) (7 + 5 * n) 8 20 1 2 = n := by
      simp (disch := omega) only [up_a']; exact e
    rw [e12, Int.toNat_natCast]
    refine ⟨by omega, ?_⟩
    refine c_X6_copy hW (mk_rule_parts mk) mk_coll (by omega) (pt := cp) (num := cn) (atP_congr (fun b _ _ => ?_) (fun _ _ => rfl) Hc) hc.2 fun μ' g1 g2 => ?_
    · simp (disch := omega) only [up_o']
    · refine g_X3_addSplit_52 hW ?_
      have e13 : μ' 1 2 = n := by
        rw [g2 1 (by omega) (by omega) (by omega) (by omega)]; exact e12
      rw [e13, wi1 (by omega)]
      have hold : ∀ b, b ≠ 1 → ¬ (3 ≤ b ∧ b ≤ 6) → ¬ (7 + 5 * n ≤ b ∧ b < 7 + 5 * n + 5) → μ' b = μ b := fun b b1 b2 b3 => by
        rw [g2 b (by omega) (by omega) (by omega) (by omega)]; simp (disch := omega) only [up_o']
      have hR : μ' (7 + 5 * n) = up (up (up (up (up (up (up (up (up (up (up μ (7 + 5 * n) 1 x1) (7 + 5 * n) 2 y2) (7 + 5 * n) 3 x3) (7 + 5 * n) 4 (-9)) (7 + 5 * n + 1) 3 0) (7 + 5 * n + 1) 4 0) (7 + 5 * n + 1) 5 0) (7 + 5 * n) 5 1) (7 + 5 * n) 6 20) (7 + 5 * n) 7 1) (7 + 5 * n) 8 20 (7 + 5 * n) := g2 _ (by omega) (by omega) (by omega) (by omega)
      refine k _ (IXg_snoc ?_ (fun b h1 h2 => ?_) ⟨⟨?_, ?_, ?_, ?_⟩, ⟨?_, ?_, ?_, ?_⟩, atP_congr (fun b h1 h2 => ?_) (fun _ _ => rfl) g1⟩ H) ⟨?_, Nat.zero_le _, ?_, ?_, fun i hi => absurd hi (Nat.not_lt_zero i)⟩ fun b b1 b2 b3 => ?_
      · simp (disch := omega) only [up_s]
      · simp (disch := omega) only [up_o']; exact hold b (by omega) (by omega) (by omega)
      · simp (disch := omega) only [up_o']; rw [hR]; simp (disch := omega) only [up_s, up_a', up_k']; rfl
      · simp (disch := omega) only [up_o']; rw [hR]; simp (disch := omega) only [up_s, up_a', up_k']; exact e2
      · simp (disch := omega) only [up_o']; rw [hR]; simp (disch := omega) only [up_s, up_a', up_k']; rfl
      · simp (disch := omega) only [up_o']; rw [hR]; simp (disch := omega) only [up_s, up_a', up_k']; rfl
      · simp (disch := omega) only [up_o']; rw [hR]; simp (disch := omega) only [up_s, up_a', up_k']; rfl
      · simp (disch := omega) only [up_o']; rw [hR]; simp (disch := omega) only [up_s, up_a', up_k']; rfl
      · simp (disch := omega) only [up_o']; rw [hR]; simp (disch := omega) only [up_s, up_a', up_k']; rfl
      · simp (disch := omega) only [up_o']; rw [hR]; simp (disch := omega) only [up_s, up_a', up_k']; rfl
      · simp (disch := omega) only [up_o']
      · simp (disch := omega) only [up_s, up_a', up_k']; rfl
      · simp (disch := omega) only [up_s, up_a', up_k']; rfl
      · simp (disch := omega) only [up_s, up_a', up_k']; rfl
      · simp (disch := omega) only [up_o']; exact hold b b1 b2 b3
  refine g_X3_addSplit_0 hW ⟨fun _ => ?_, fun h => absurd h (by omega)⟩
  rw [e, Int.toNat_natCast]
  exact ⟨by omega, fun h => go 1 (by rw [if_pos h]), fun h => go 2 (by rw [if_neg h])⟩
theorem c_X3_addRepeat (hW : WF sh ν f s) {x1 x2 x3 x4 x5 : Int} (h2 : 0 ≤ x2 ∧ x2 ≤ 7) (h3 : 1 ≤ x3 ∧ x3 ≤ 20) (hn : n < 40) (H : IXg μ n R) (k : ∀ μ' : Nat → Nat → Int, IXg μ' (n + 1) (snoc R n (dRepeat x1 x2 x3 x4 x5)) → (∀ b, b ≠ 1 → ¬ (7 + 5 * n ≤ b ∧ b < 7 + 5 * n + 5) → μ' b = μ b) → Q (some (vI (n : Nat))) sh ν μ') : X mX3_addRepeat 0 [(0, vR 1), (1, vI x1), (2, vI x2), (3, vI x3), (4, vI x4), (5, vI x5)] [] sh ν μ 0 0 Q := by
  have e := H.1
  have mk : isRule (7 + 5 * n) := ⟨n, hn, rfl⟩
  have go : ∀ y2 : Int, y2 = (if x4 = 0 then 3 else 4) → X mX3_addRepeat 30 [(0, vR 1), (2, vI x2), (3, vI x3), (5, vI x5)] [vI y2, vI x1, vR (7 + 5 * n)] sh ν μ 0 0 Q := by
    intro y2 e2
    refine g_X3_addRepeat_30 hW mk ?_
    have e12 : up (up (up (up (up (up (up (up (up (up (up μ (7 + 5 * n) 1 x1) (7 + 5 * n) 2 y2) (7 + 5 * n) 3 x5) (7 + 5 * n) 4 (-9)) (7 + 5 * n + 1) 3 0) (7 + 5 * n + 1) 4 0) (7 + 5 * n + 1) 5 0) (7 + 5 * n) 5 1) (7 + 5 * n) 6 20) (7 + 5 * n) 7 1) (7 + 5 * n) 8 20 1 2 = n := by
      simp (disch := omega) only [up_a']; exact e
    rw [e12, Int.toNat_natCast]
    refine ⟨by omega, ?_⟩
    refine c_X6_add hW (mk_rule_parts mk) (num := 0) (pt := fun _ => (x2, x3, false)) (p := (x2, x3, false)) ⟨?_, by omega, ?_, ?_, fun i hi => absurd hi (Nat.not_lt_zero i)⟩ (by omega) rfl rfl rfl ⟨h2, h3.1, h3.2, fun q => by cases q⟩ (fun i hi => absurd hi (Nat.not_lt_zero i)) fun μ' g1 g2 => ?_
    · simp (disch := omega) only [up_s, up_a', up_k']; rfl
    · simp (disch := omega) only [up_s, up_a', up_k']; rfl
    · simp (disch := omega) only [up_s, up_a', up_k']; rfl
    · refine g_X3_addRepeat_53 hW ?_
      have e13 : μ' 1 2 = n := by
        rw [g2 1 (by omega) (by omega) (by omega) (by omega)]; exact e12
      rw [e13, wi1 (by omega)]
      have hold : ∀ b, b ≠ 1 → ¬ (7 + 5 * n ≤ b ∧ b < 7 + 5 * n + 5) → μ' b = μ b := fun b b1 b3 => by
        rw [g2 b (by omega) (by omega) (by omega) (by omega)]; simp (disch := omega) only [up_o']
      have hR : μ' (7 + 5 * n) = up (up (up (up (up (up (up (up (up (up (up μ (7 + 5 * n) 1 x1) (7 + 5 * n) 2 y2) (7 + 5 * n) 3 x5) (7 + 5 * n) 4 (-9)) (7 + 5 * n + 1) 3 0) (7 + 5 * n + 1) 4 0) (7 + 5 * n + 1) 5 0) (7 + 5 * n) 5 1) (7 + 5 * n) 6 20) (7 + 5 * n) 7 1) (7 + 5 * n) 8 20 (7 + 5 * n) := g2 _ (by omega) (by omega) (by omega) (by omega)
      refine k _ (IXg_snoc ?_ (fun b h1 h2 => ?_) ⟨⟨?_, ?_, ?_, ?_⟩, ⟨?_, ?_, ?_, ?_⟩, atP_congr (num := 1) (fun b h1 h2 => ?_) (fun i hi => ?_) g1⟩ H) fun b b1 b3 => ?_
      · simp (disch := omega) only [up_s]
      · simp (disch := omega) only [up_o']; exact hold b (by omega) (by omega)
      · simp (disch := omega) only [up_o']; rw [hR]; simp (disch := omega) only [up_s, up_a', up_k']; rfl
      · simp (disch := omega) only [up_o']; rw [hR]; simp (disch := omega) only [up_s, up_a', up_k']; exact e2
      · simp (disch := omega) only [up_o']; rw [hR]; simp (disch := omega) only [up_s, up_a', up_k']; rfl
      · simp (disch := omega) only [up_o']; rw [hR]; simp (disch := omega) only [up_s, up_a', up_k']; rfl
      · simp (disch := omega) only [up_o']; rw [hR]; simp (disch := omega) only [up_s, up_a', up_k']; rfl
      · simp (disch := omega) only [up_o']; rw [hR]; simp (disch := omega) only [up_s, up_a', up_k']; rfl
      · simp (disch := omega) only [up_o']; rw [hR]; simp (disch := omega) only [up_s, up_a', up_k']; rfl
      · simp (disch := omega) only [up_o']; rw [hR]; simp (disch := omega) only [up_s, up_a', up_k']; rfl
      · simp (disch := omega) only [up_o']
      · rw [show i = 0 by omega, snoc_n]; rfl
      · simp (disch := omega) only [up_o']; exact hold b b1 b3
  refine g_X3_addRepeat_0 hW ⟨fun _ => ?_, fun h => absurd h (by omega)⟩
  rw [e, Int.toNat_natCast]
  exact ⟨by omega, fun h => go 3 (by rw [if_pos h]), fun h => go 4 (by rw [if_neg h])⟩
end XRU
