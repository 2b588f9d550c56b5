/-! the board: board, put, take, count, of both -/
abbrev BD : Type := Int × Int × (Nat → Int)
abbrev bw (B : BD) : Int := B.1
abbrev bh (B : BD) : Int := B.2.1
abbrev bl (B : BD) : Nat → Int := B.2.2
def okB (B : BD) : Prop := (1 ≤ bw B ∧ bw B ≤ 9) ∧ (1 ≤ bh B ∧ bh B ≤ 9) ∧ ∀ p, p < 81 → 0 ≤ bl B p ∧ bl B p ≤ 25
def IXb (μ : Nat → Nat → Int) (B : BD) : Prop := μ 211 1 = bw B ∧ μ 211 2 = bh B ∧ ∀ p, p < 81 → μ 212 p = bl B p
def IMb (μ : Nat → Nat → Int) (B : BD) : Prop := μ 265 35 = bw B ∧ μ 265 36 = bh B ∧ ∀ p, p < 81 → μ 292 p = bl B p
def isBs (w h : Int) : Prop := (1 ≤ w ∧ w ≤ 9) ∧ 1 ≤ h ∧ h ≤ 9
def isPl (B : BD) (p : Int) : Prop := 0 ≤ p ∧ p < 81 ∧ p % 9 < bw B ∧ p / 9 < bh B
def newB (w h : Int) : BD := (w, h, fun _ => 0)
def putB (B : BD) (p : Int) (l : Int) : BD := (bw B, bh B, fun j => if j = Int.toNat p then l else bl B j)
noncomputable def takeB (F : FR) : BD := (fW F, fH F, fun p => cI (((p % 9 : Nat) : Int) < fW F ∧ ((p / 9 : Nat) : Int) < fH F) (fV F (p % 9 + 20 * (p / 9))) 0)
def canT (F : FR) : Prop := fW F ≠ 0 ∧ fW F ≤ 9 ∧ fH F ≤ 9
theorem okB_new {w h : Int} (hs : isBs w h) : okB (newB w h) := ⟨hs.1, hs.2, fun p _ => by show 0 ≤ (0 : Int) ∧ (0 : Int) ≤ 25; decide⟩
theorem okB_put {B : BD} (h : okB B) {p l : Int} (hl : 0 ≤ l ∧ l ≤ 25) : okB (putB B p l) := ⟨h.1, h.2.1, fun j hj => by
  show 0 ≤ (if j = Int.toNat p then l else bl B j) ∧ (if j = Int.toNat p then l else bl B j) ≤ 25
  split
  · exact hl
  · exact h.2.2 j hj⟩
theorem okB_take {F : FR} (hF : okF F) (h : canT F) : okB (takeB F) := by
  obtain ⟨h1, h2, h3⟩ := h
  have hs : isSc (fW F) (fH F) := by
    rcases hF.1 with ⟨q, -, -⟩ | q
    · exact absurd q h1
    · exact q
  refine ⟨⟨hs.1.1, h2⟩, ⟨hs.2.1, h3⟩, fun p hp => ?_⟩
  show 0 ≤ cI _ _ _ ∧ cI _ _ _ ≤ _
  by_cases q : ((p % 9 : Nat) : Int) < fW F ∧ ((p / 9 : Nat) : Int) < fH F
  · rw [cI_t q]
    exact hF.2.2 _ ⟨by omega, by omega⟩
  · rw [cI_f q]; decide
section BO
variable {sh : List (Nat × Nat)} {ν : Nat → Nat → Option Nat} {μ : Nat → Nat → Int} {f s : Nat} {Q : xQ} {n : Nat} {R : GR} {F : FR} {B : BD}
theorem c_X0_begin (hW : WF sh ν f s) {w h : Int} (k : ∀ μ' : Nat → Nat → Int, IXb μ' (newB w h) → (∀ b, b ≠ 211 → b ≠ 212 → μ' b = μ b) → Q none sh ν μ') : X mX0_begin 0 [(0, vR 211), (1, vI w), (2, vI h)] [] sh ν μ 0 0 Q := by
  refine g_X0_begin_0 hW ?_
  refine k _ ⟨?_, ?_, fun p hp => ?_⟩ fun b b0 b1 => ?_
  · rw [filA_out (by omega)]; simp (disch := omega) only [up_s, up_k']; rfl
  · rw [filA_out (by omega)]; simp (disch := omega) only [up_s, up_k']; rfl
  · rw [filA_in (by omega) hp]; exact w8_id (by omega) (by omega)
  · funext j
    rw [filA_out b1]; simp (disch := omega) only [up_a']
theorem c_X9_board (hW : WF sh ν f s) {w h : Int} (k0 : ¬ isBs w h → Q (some (vI (-2))) sh ν μ)
    (k1 : isBs w h → ∀ μ' : Nat → Nat → Int, IXb μ' (newB w h) → (∀ b, b ≠ 211 → b ≠ 212 → b ≠ 231 → μ' b = μ b) → (∀ j, j ≠ 13 → μ' 231 j = μ 231 j) → μ' 231 13 = 1 → Q (some (vI 1)) sh ν μ') : X mX9_board 0 [(0, vR 0), (1, vI w), (2, vI h)] [] sh ν μ 0 0 Q := by
  refine g_X9_board_0 hW ⟨fun q => k0 fun z => q z.1, fun q1 => ⟨fun q2 => ?_, fun q => k0 fun z => q z.2⟩⟩
  refine c_X0_begin hW fun m g1 g2 => ?_
  refine g_X9_board_32 hW (k1 ⟨q1, q2⟩ _ ?_ (fun b b0 b1 b2 => by rw [up_o' b2]; exact g2 b b0 b1) (fun j hj => by rw [up_k' hj, g2 231 (by omega) (by omega)]) (up_s ..))
  unfold IXb
  rw [up_o' (show 211 ≠ 231 by omega), up_o' (show 212 ≠ 231 by omega)]
  exact g1
noncomputable def ansPut (B : BD) (p l : Int) : Int := cI (isPl B p) (cI (0 ≤ l ∧ l ≤ 25) (bl B (Int.toNat p)) (-2)) (-1)
def canP (B : BD) (p l : Int) : Prop := isPl B p ∧ 0 ≤ l ∧ l ≤ 25
theorem c_X9_put (hW : WF sh ν f s) (H : IXb μ B) {p l : Int} (k0 : ¬ canP B p l → Q (some (vI (ansPut B p l))) sh ν μ)
    (k1 : canP B p l → ∀ μ' : Nat → Nat → Int, IXb μ' (putB B p l) → (∀ b, b ≠ 212 → b ≠ 231 → μ' b = μ b) → (∀ j, j ≠ 13 → μ' 231 j = μ 231 j) → μ' 231 13 = 1 → Q (some (vI (ansPut B p l))) sh ν μ') : X mX9_put 0 [(0, vR 0), (1, vI p), (2, vI l)] [] sh ν μ 0 0 Q := by
  unfold ansPut at k0 k1
  obtain ⟨h1, h2, h3⟩ := H
  refine g_X9_put_0 hW ?_
  rw [h1, h2]
  refine ⟨fun q1 => ⟨fun q2 => ⟨by omega, by omega, ?_⟩, fun q => ?_⟩, fun q => ?_⟩
  · have hc : canP B p l := ⟨q1, q2⟩
    have k := k1 hc
    rw [cI_t hc.1, cI_t q2] at k
    rw [h3 _ (by omega), w8_id (x := l) (by omega) (by omega), w8_id (x := l) (by omega) (by omega)]
    refine k _ ⟨?_, ?_, fun j hj => ?_⟩ (fun b b0 b1 => by simp (disch := omega) only [up_o']) (fun j hj => by simp (disch := omega) only [up_a', up_k']) (up_s ..)
    · simp (disch := omega) only [up_a']; exact h1
    · simp (disch := omega) only [up_a']; exact h2
    · show _ = if j = Int.toNat p then l else bl B j
      by_cases e : j = Int.toNat p
      · rw [if_pos e, e]; simp (disch := omega) only [up_s, up_a']
      · rw [if_neg e]; simp (disch := omega) only [up_a', up_k']; exact h3 j hj
  · have k := k0 fun z => q z.2
    rw [cI_t (show isPl B p from q1), cI_f q] at k; exact k
  · have k := k0 fun z => q z.1
    rw [cI_f (show ¬ isPl B p from q)] at k; exact k
theorem c_X9_take (hW : WF sh ν f s) (hF : okF F) (HF : IXf μ f F) (k0 : ¬ canT F → Q (some (vI (-3))) sh ν μ)
    (k1 : canT F → ∀ μ' : Nat → Nat → Int, IXb μ' (takeB F) → (∀ b, b ≠ 211 → b ≠ 212 → b ≠ 231 → μ' b = μ b) → (∀ j, j ≠ 13 → μ' 231 j = μ 231 j) → μ' 231 13 = 1 → Q (some (vI 1)) sh ν μ') : X mX9_take 0 [(0, vR 0)] [] sh ν μ 0 0 Q := by
  have hf := wf_f hW
  have ha : 259 ≤ f ∧ f ≤ 262 := by rcases hf with rfl | rfl <;> omega
  have h20 := okF_20 hF
  refine g_X9_take_0 hW ?_
  rw [HF.1.1, HF.1.2.1]
  refine ⟨fun q => k0 fun z => z.1 q, fun q1 => ⟨fun q => k0 fun z => by have := z.2.1; omega, fun q2 => ⟨fun q3 => ?_, fun q => k0 fun z => by have := z.2.2; omega⟩⟩⟩
  have hc : canT F := ⟨q1, q2, q3⟩
  have hlet : ∀ p, inF F p → 0 ≤ fV F p ∧ fV F p ≤ 25 := hF.2.2
  refine c_X0_begin hW fun m0 g1 g2 => ?_
  refine g_X9_take_58 hW ?_
  have key := loop_up (Int.toNat (fH F)) (fun (y : Nat) (m : Nat → Nat → Int) => (∀ b, b ≠ 211 → b ≠ 212 → m b = μ b) ∧ (m 211 1 = fW F ∧ m 211 2 = fH F) ∧ ∀ p, p < 81 → m 212 p = cI (((p % 9 : Nat) : Int) < fW F ∧ p / 9 < y) (fV F (p % 9 + 20 * (p / 9))) 0) (fun y m => X mX9_take 60 [(0, vR 0), (1, vI (y : Nat))] [] sh ν m 0 0 Q) ?_ ?_ 0 m0 (Nat.zero_le _) ⟨g2, ⟨g1.1, g1.2.1⟩, fun p hp => by rw [cI_f (fun z => by omega)]; exact g1.2.2 p hp⟩
  · exact key
  · rintro m ⟨u1, u2, u3⟩
    refine g_X9_take_60 hW ?_
    rw [show m f 3 = fH F by rw [u1 f (by omega) (by omega)]; exact HF.1.2.1]
    refine ⟨fun _ => k1 hc _ ⟨?_, ?_, fun p hp => ?_⟩ (fun b b0 b1 b2 => by rw [up_o' b2]; exact u1 b b0 b1) (fun j hj => by rw [up_k' hj, u1 231 (by omega) (by omega)]) (up_s ..), fun q => absurd q (by omega)⟩
    · simp (disch := omega) only [up_a']; exact u2.1
    · simp (disch := omega) only [up_a']; exact u2.2
    · simp (disch := omega) only [up_a']
      rw [u3 p hp]
      show _ = cI _ _ _
      by_cases q : ((p % 9 : Nat) : Int) < fW F ∧ ((p / 9 : Nat) : Int) < fH F
      · rw [cI_t q, cI_t (by omega)]
      · rw [cI_f q, cI_f (by omega)]
  · rintro y m hy ⟨u1, u2, u3⟩ ih
    refine g_X9_take_60 hW ?_
    rw [show m f 3 = fH F by rw [u1 f (by omega) (by omega)]; exact HF.1.2.1]
    refine ⟨fun q => absurd q (by omega), fun _ => ?_⟩
    have key2 := loop_up (Int.toNat (fW F)) (fun (x : Nat) (m' : Nat → Nat → Int) => (∀ b, b ≠ 212 → m' b = m b) ∧ ∀ p, p < 81 → m' 212 p = cI (((p % 9 : Nat) : Int) < fW F ∧ (p / 9 < y ∨ p / 9 = y ∧ p % 9 < x)) (fV F (p % 9 + 20 * (p / 9))) 0) (fun x m' => X mX9_take 73 [(0, vR 0), (1, vI (y : Nat)), (2, vI (x : Nat))] [] sh ν m' 0 0 Q) ?_ ?_ 0 m (Nat.zero_le _) ⟨fun _ _ => rfl, fun p hp => ?_⟩
    · exact key2
    · rintro m' ⟨v1, v2⟩
      refine g_X9_take_73 hW ?_
      rw [show m' f 2 = fW F by rw [v1 f (by omega), u1 f (by omega) (by omega)]; exact HF.1.1, wi1 (by omega)]
      refine ⟨fun _ => ih m' ⟨fun b b0 b1 => by rw [v1 b b1]; exact u1 b b0 b1, by rw [v1 211 (by omega)]; exact u2, fun p hp => ?_⟩, fun q => absurd q (by omega)⟩
      rw [v2 p hp]
      by_cases q : ((p % 9 : Nat) : Int) < fW F ∧ p / 9 < y + 1
      · rw [cI_t q, cI_t (by omega)]
      · rw [cI_f q, cI_f (by omega)]
    · rintro x m' hx ⟨v1, v2⟩ ih2
      have HF' : IXf m' f F := by
        unfold IXf
        rw [v1 f (by omega), v1 (f + 1) (by omega), v1 (f + 2) (by omega), u1 f (by omega) (by omega), u1 (f + 1) (by omega) (by omega), u1 (f + 2) (by omega) (by omega)]
        exact HF
      refine g_X9_take_73 hW ?_
      rw [show m' f 2 = fW F from HF'.1.1]
      refine ⟨fun q => absurd q (by omega), fun _ => ?_⟩
      refine c_X2_letterOf hW hF HF' (x := (x : Nat)) (y := (y : Nat)) (by omega) (by omega) ?_
      refine g_X9_take_99 hW ?_
      have e1 : w32 ((x : Int) + w32 (9 * (y : Int))) = ((x + 9 * y : Nat) : Int) := by rw [w32_id (x := 9 * (y : Int)) (by omega) (by omega), w32_id (by omega) (by omega)]; omega
      have hin : inF F (Int.toNat ((x : Int) + 20 * (y : Int))) := ⟨by omega, by omega⟩
      have hl := hlet _ hin
      refine g_X0_set_0 hW ?_
      rw [e1, v1 211 (by omega), u2.1, u2.2, Int.toNat_natCast, w8_id (x := fV F (Int.toNat ((x : Int) + 20 * (y : Int)))) (by omega) (by omega), w8_id (x := fV F (Int.toNat ((x : Int) + 20 * (y : Int)))) (by omega) (by omega)]
      refine ⟨fun q => absurd (by omega) q, fun _ => ⟨by omega, ?_⟩⟩
      refine g_X9_take_102 hW ?_
      rw [wi1 (by omega)]
      refine ih2 _ ⟨fun b hb => by rw [up_o' hb]; exact v1 b hb, fun p hp => ?_⟩
      by_cases e : p = x + 9 * y
      · rw [e, up_s, cI_t (by omega)]
        rw [show Int.toNat ((x : Int) + 20 * (y : Int)) = (x + 9 * y) % 9 + 20 * ((x + 9 * y) / 9) by omega]
      · rw [up_k' e, v2 p hp]
        by_cases q : ((p % 9 : Nat) : Int) < fW F ∧ (p / 9 < y ∨ p / 9 = y ∧ p % 9 < x + 1)
        · rw [cI_t q, cI_t (by omega)]
        · rw [cI_f q, cI_f (by omega)]
    · rw [u3 p hp]
      by_cases q : ((p % 9 : Nat) : Int) < fW F ∧ p / 9 < y
      · rw [cI_t q, cI_t (by omega)]
      · rw [cI_f q, cI_f (by omega)]
end BO
