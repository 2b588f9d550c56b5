/-! the rule that a key picks, of both -/
theorem xand_b (a : Int) : 0 ≤ xand a 32767 ∧ xand a 32767 ≤ 32767 := by
  have e : xand a 32767 = ((Int32.ofInt a).toBitVec &&& 32767#32).toInt := rfl
  have h2 : ((Int32.ofInt a).toBitVec &&& 32767#32).toNat ≤ 32767 := by rw [BitVec.toNat_and]; exact Nat.and_le_right
  rw [e, BitVec.toInt_eq_toNat_of_lt (by omega)]
  omega
theorem key_eq (x : Int) : xand (xushr x 16) 32767 = xand (xshr x 16) 32767 := by
  unfold xand xushr xshr
  rw [Int32.ofInt_toInt, Int32.ofInt_toInt]
  generalize Int32.ofInt x = v
  have e1 : ((Int32.ofInt 16).toUInt32 &&& Int32.toUInt32 31) = 16 := by decide
  have e2 : (Int32.ofInt 16 &&& 31) = 16 := by decide
  rw [e1, e2]
  have h : ((v.toUInt32 >>> 16).toInt32 &&& Int32.ofInt 32767).toBitVec = ((v >>> 16) &&& Int32.ofInt 32767).toBitVec := by
    have a1 : ((v.toUInt32 >>> 16).toInt32 &&& Int32.ofInt 32767).toBitVec = (v.toBitVec >>> 16) &&& 32767#32 := rfl
    have a2 : ((v >>> 16) &&& Int32.ofInt 32767).toBitVec = (v.toBitVec.sshiftRight 16) &&& 32767#32 := rfl
    rw [a1, a2]
    apply BitVec.eq_of_getLsbD_eq
    intro i hi
    rw [BitVec.getLsbD_and, BitVec.getLsbD_and, BitVec.getLsbD_ushiftRight, BitVec.getLsbD_sshiftRight]
    by_cases q : i < 15
    · have : 16 + i < 32 := by omega
      simp [this, show ¬ (32 ≤ i) by omega]
    · have hb : (32767#32).getLsbD i = false := by
        rw [BitVec.getLsbD_ofNat]
        have : Nat.testBit 32767 i = false := Nat.testBit_lt_two_pow (Nat.lt_of_lt_of_le (show 32767 < 2 ^ 15 by decide) (Nat.pow_le_pow_right (by decide) (by omega)))
        rw [this, Bool.and_false]
      rw [hb, Bool.and_false, Bool.and_false]
  have h3 : ((v.toUInt32 >>> 16).toInt32 &&& Int32.ofInt 32767) = ((v >>> 16) &&& Int32.ofInt 32767) := Int32.toBitVec_inj.1 h
  rw [h3]
def keyF (k : Int) : Int := xand (xshr (w32 (w32 (k * 1103515245) + 12345)) 16) 32767
theorem keyF_b (k : Int) : 0 ≤ keyF k ∧ keyF k ≤ 32767 := xand_b _
def fitsP (R : GR) (nm w h : Int) (r : Nat) : Prop := rn (R r) = nm ∧ holdsF (R r) w h
noncomputable def cntF (R : GR) (nm w h : Int) : Nat → Nat
  | 0 => 0
  | i + 1 => cntF R nm w h i + cI (fitsP R nm w h i) 1 0
noncomputable def fitA (R : GR) (nm w h : Int) : Nat → Nat → Nat
  | 0 => fun _ => 0
  | i + 1 => cI (fitsP R nm w h i) (fun j => if j = cntF R nm w h i then i else fitA R nm w h i j) (fitA R nm w h i)
noncomputable def pickF (n : Nat) (R : GR) (nm w h key : Int) : Int := if cntF R nm w h n = 0 then -9 else (fitA R nm w h n (Int.toNat (keyF key % (cntF R nm w h n : Int))) : Nat)
section FI
variable {R : GR} {nm w h : Int} {r n : Nat}
theorem cntF_t (q : fitsP R nm w h r) : cntF R nm w h (r + 1) = cntF R nm w h r + 1 := by
  show cntF R nm w h r + cI (fitsP R nm w h r) 1 0 = _
  rw [cI_t q]
theorem cntF_f (q : ¬ fitsP R nm w h r) : cntF R nm w h (r + 1) = cntF R nm w h r := by
  show cntF R nm w h r + cI (fitsP R nm w h r) 1 0 = _
  rw [cI_f q]; rfl
theorem fitA_t (q : fitsP R nm w h r) (j : Nat) : fitA R nm w h (r + 1) j = if j = cntF R nm w h r then r else fitA R nm w h r j := by
  show cI (fitsP R nm w h r) (fun j => if j = cntF R nm w h r then r else fitA R nm w h r j) (fitA R nm w h r) j = _
  rw [cI_t q]
theorem fitA_f (q : ¬ fitsP R nm w h r) : fitA R nm w h (r + 1) = fitA R nm w h r := by
  show cI (fitsP R nm w h r) (fun j => if j = cntF R nm w h r then r else fitA R nm w h r j) (fitA R nm w h r) = _
  rw [cI_f q]
theorem cntF_le (i : Nat) : cntF R nm w h i ≤ i := by
  induction i with
  | zero => exact Nat.le_refl _
  | succ i ih =>
    by_cases q : fitsP R nm w h i
    · rw [cntF_t q]; omega
    · rw [cntF_f q]; omega
theorem cntF_mono {i j : Nat} (hij : i ≤ j) : cntF R nm w h i ≤ cntF R nm w h j := by
  induction j with
  | zero => rw [show i = 0 by omega]; exact Nat.le_refl _
  | succ j ih =>
    by_cases e : i = j + 1
    · rw [e]; exact Nat.le_refl _
    · have := ih (by omega)
      by_cases q : fitsP R nm w h j
      · rw [cntF_t q]; omega
      · rw [cntF_f q]; omega
theorem fitA_at (q : fitsP R nm w h r) {j : Nat} (hj : r < j) : fitA R nm w h j (cntF R nm w h r) = r := by
  induction j with
  | zero => omega
  | succ j ih =>
    by_cases e : j = r
    · subst e; rw [fitA_t q, if_pos rfl]
    · have h1 := ih (by omega)
      by_cases p : fitsP R nm w h j
      · have h2 := cntF_mono (R := R) (nm := nm) (w := w) (h := h) (show r + 1 ≤ j by omega)
        rw [cntF_t q] at h2
        rw [fitA_t p, if_neg (by omega)]; exact h1
      · rw [fitA_f p]; exact h1
theorem fitA_is {j : Nat} : ∀ n, j < cntF R nm w h n → fitA R nm w h n j < n ∧ fitsP R nm w h (fitA R nm w h n j) := by
  intro n
  induction n with
  | zero => intro hj; exact absurd hj (Nat.not_lt_zero _)
  | succ n ih =>
    intro hj
    by_cases q : fitsP R nm w h n
    · rw [fitA_t q]
      by_cases e : j = cntF R nm w h n
      · rw [if_pos e]; exact ⟨by omega, q⟩
      · rw [if_neg e]
        rw [cntF_t q] at hj
        have := ih (by omega)
        exact ⟨by omega, this.2⟩
    · rw [fitA_f q]
      rw [cntF_f q] at hj
      have := ih hj
      exact ⟨by omega, this.2⟩
theorem pickF_is {key : Int} (hv : pickF n R nm w h key ≠ -9) : ∃ r : Nat, pickF n R nm w h key = r ∧ r < n ∧ fitsP R nm w h r := by
  unfold pickF at hv ⊢
  by_cases e : cntF R nm w h n = 0
  · rw [if_pos e] at hv; exact absurd rfl hv
  · rw [if_neg e]
    have hm := Int.emod_lt_of_pos (keyF key) (show (0 : Int) < (cntF R nm w h n : Int) by omega)
    have hm0 := Int.emod_nonneg (keyF key) (show (cntF R nm w h n : Int) ≠ 0 by omega)
    have := fitA_is (R := R) (nm := nm) (w := w) (h := h) (j := Int.toNat (keyF key % (cntF R nm w h n : Int))) n (by omega)
    exact ⟨_, rfl, this⟩
end FI
section PI
variable {sh : List (Nat × Nat)} {ν : Nat → Nat → Option Nat} {μ : Nat → Nat → Int} {f s : Nat} {Q : xQ} {n : Nat} {R : GR}
theorem atR_name {a : Nat} {d : RD} (h : atR μ a d) : μ a 1 = rn d := h.1.1
theorem c_X8_choose (hW : WF sh ν f s) (hG : okG n R) (H : IXg μ n R) {nm w h key : Int} (hs : isSc w h) (en : μ 249 5 = nm) (ew : μ 249 8 = w) (eh : μ 249 9 = h) (ek : μ 249 10 = key)
    (k : ∀ μ' : Nat → Nat → Int, (∀ b, b ≠ 207 → b ≠ 208 → b ≠ 209 → b ≠ 210 → b ≠ 258 → μ' b = μ b) → Q (some (vI (pickF n R nm w h key))) sh ν μ') : X mX8_choose 0 [(0, vR 249)] [] sh ν μ 0 0 Q := by
  have h40 := hG.1
  refine g_X8_choose_0 hW ?_
  have key0 := loop_up n (fun (i : Nat) (m : Nat → Nat → Int) => (∀ b, b ≠ 207 → b ≠ 208 → b ≠ 209 → b ≠ 210 → b ≠ 258 → m b = μ b) ∧ ∀ j, j < cntF R nm w h i → m 258 j = (fitA R nm w h i j : Nat)) (fun i m => X mX8_choose 4 [(0, vR 249), (1, vI (cntF R nm w h i : Nat)), (2, vI (i : Nat))] [] sh ν m 0 0 Q) ?_ ?_ 0 μ (Nat.zero_le _) ⟨fun _ _ _ _ _ _ => rfl, fun j hj => absurd hj (Nat.not_lt_zero j)⟩
  · exact key0
  · rintro m ⟨g1, g2⟩
    refine g_X8_choose_4 hW ?_
    rw [g1 1 (by omega) (by omega) (by omega) (by omega) (by omega), H.1]
    refine ⟨fun _ => ?_, fun q => absurd q (by omega)⟩
    refine g_X8_choose_77 hW ?_
    rw [g1 249 (by omega) (by omega) (by omega) (by omega) (by omega), ek, key_eq]
    have hk := keyF_b key
    rw [show xand (xshr (w32 (w32 (key * 1103515245) + 12345)) 16) 32767 = keyF key from rfl]
    refine ⟨fun q => ?_, fun q => ?_⟩
    · have hc : cntF R nm w h n ≠ 0 := by omega
      have hle := cntF_le (R := R) (nm := nm) (w := w) (h := h) n
      have hm := Int.emod_lt_of_pos (keyF key) (show (0 : Int) < (cntF R nm w h n : Int) by omega)
      have hm0 := Int.emod_nonneg (keyF key) q
      rw [Int.tmod_eq_emod_of_nonneg hk.1, w32_id (by omega) (by omega)]
      refine ⟨q, by omega, ?_⟩
      have hv := k m g1
      unfold pickF at hv
      rw [if_neg hc] at hv
      rw [g2 (Int.toNat (keyF key % (cntF R nm w h n : Int))) (by omega)]
      exact hv
    · have hv := k m g1
      unfold pickF at hv
      rw [if_pos (by omega)] at hv
      exact hv
  · rintro i m hi ⟨g1, g2⟩ ih
    have e1 := g1 1 (by omega) (by omega) (by omega) (by omega) (by omega)
    have e9 := g1 249 (by omega) (by omega) (by omega) (by omega) (by omega)
    have eR : ∀ r, r < n → m (7 + 5 * r) = μ (7 + 5 * r) := fun r hr => g1 _ (by omega) (by omega) (by omega) (by omega) (by omega)
    have hle := cntF_le (R := R) (nm := nm) (w := w) (h := h) i
    have h71 : ∀ m' : Nat → Nat → Int, (∀ b, b ≠ 207 → b ≠ 208 → b ≠ 209 → b ≠ 210 → b ≠ 258 → m' b = μ b) → (∀ j, j < cntF R nm w h (i + 1) → m' 258 j = (fitA R nm w h (i + 1) j : Nat)) → X mX8_choose 71 [(0, vR 249), (1, vI (cntF R nm w h (i + 1) : Nat)), (2, vI (i : Nat))] [] sh ν m' 0 0 Q := by
      intro m' t1 t2
      refine g_X8_choose_71 hW ?_
      rw [wi1 (by omega)]
      exact ih m' ⟨t1, t2⟩
    refine g_X8_choose_4 hW ?_
    rw [e1, H.1, Int.toNat_natCast, eR i hi, e9, en, ew, eh, atR_name (H.2 i hi)]
    refine ⟨fun q => absurd q (by omega), fun _ => ⟨fun q => absurd q (by omega), fun _ => ⟨by omega, fun q => ?_, fun q => ?_⟩⟩⟩
    · have nf : ¬ fitsP R nm w h i := fun z => q z.1
      have := h71 m g1 (by rw [cntF_f nf, fitA_f nf]; exact g2)
      rw [cntF_f nf] at this
      exact this
    · have hL : frL m m := frL_refl
      refine c_X5_lay hW ⟨i, by omega, rfl⟩ (atR_congr (fun b hb hb2 => g1 b (by omega) (by omega) (by omega) (by omega) (by omega)) (H.2 i hi)) (hG.2 i hi) hs.1 hs.2 (fun g μ' _ g3 => ?_) (fun g μ' g3 => ?_)
      · have yf : fitsP R nm w h i := ⟨q, g⟩
        refine g_X8_choose_58 hW ⟨fun z => absurd z (by decide), fun _ => ⟨by omega, ?_⟩⟩
        rw [wi1 (by omega), Int.toNat_natCast, ← cntF_t yf]
        refine h71 _ (fun b b0 b1 b2 b3 b4 => by rw [up_o' b4, g3 b b0 b1 b2 b3]; exact g1 b b0 b1 b2 b3 b4) fun j hj => ?_
        rw [fitA_t yf]
        by_cases e : j = cntF R nm w h i
        · rw [e, up_s, if_pos rfl]
        · rw [up_k' e, if_neg e, g3 258 (by omega) (by omega) (by omega) (by omega)]
          rw [cntF_t yf] at hj
          exact g2 j (by omega)
      · have nf : ¬ fitsP R nm w h i := fun z => g z.2
        refine g_X8_choose_58 hW ⟨fun _ => ?_, fun z => absurd rfl z⟩
        have := h71 μ' (fun b b0 b1 b2 b3 b4 => by rw [g3 b b0 b1 b2 b3]; exact g1 b b0 b1 b2 b3 b4) (by rw [cntF_f nf, fitA_f nf, g3 258 (by omega) (by omega) (by omega) (by omega)]; exact g2)
        rw [cntF_f nf] at this
        exact this
end PI
