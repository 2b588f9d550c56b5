/-! masks of names: bits of an int -/
def mb (m : Int) (k : Nat) : Prop := (Int32.ofInt m).toBitVec.getLsbD k = true
/-- a mask: no bits but those of names -/
def mk (m : Int) : Prop := xi32 m ∧ ∀ k, 8 ≤ k → k < 32 → ¬ mb m k
theorem mb_to (z : Int32) (k : Nat) : mb z.toInt k ↔ z.toBitVec.getLsbD k = true := by
  unfold mb; rw [Int32.ofInt_toInt]
theorem mb_or (a b : Int) (k : Nat) : mb (xor_ a b) k ↔ mb a k ∨ mb b k := by
  unfold xor_
  rw [mb_to, Int32.toBitVec_or, BitVec.getLsbD_or, Bool.or_eq_true]
  rfl
theorem mb_and (a b : Int) (k : Nat) : mb (xand a b) k ↔ mb a k ∧ mb b k := by
  unfold xand
  rw [mb_to, Int32.toBitVec_and, BitVec.getLsbD_and, Bool.and_eq_true]
  rfl
theorem mb_m1 : ∀ k : Fin 32, (Int32.ofInt (-1)).toBitVec.getLsbD k.val = true := by decide +kernel
theorem mb_not (b : Int) {k : Nat} (hk : k < 32) : mb (xxor b (-1)) k ↔ ¬ mb b k := by
  unfold xxor
  rw [mb_to, Int32.toBitVec_xor, BitVec.getLsbD_xor, mb_m1 ⟨k, hk⟩, Bool.xor_true]
  unfold mb
  cases (Int32.ofInt b).toBitVec.getLsbD k <;> simp
theorem mb_andn (a b : Int) {k : Nat} (hk : k < 32) : mb (xand a (xxor b (-1))) k ↔ mb a k ∧ ¬ mb b k := by
  rw [mb_and, mb_not b hk]
theorem mb_0 (k : Nat) : ¬ mb 0 k := by
  intro h
  have e : (Int32.ofInt 0).toBitVec = 0#32 := rfl
  unfold mb at h
  rw [e, BitVec.getLsbD_zero] at h
  exact absurd h (by decide)
theorem mb_zero {m : Int} (h : xi32 m) : m = 0 ↔ ∀ k, k < 32 → ¬ mb m k := by
  constructor
  · rintro rfl k _; exact mb_0 k
  · intro hk
    have e : Int32.ofInt m = Int32.ofInt 0 := by
      apply Int32.toBitVec_inj.1
      apply BitVec.eq_of_getLsbD_eq
      intro i hi
      have h1 := hk i hi
      have h2 := mb_0 i
      unfold mb at h1 h2
      rw [Bool.not_eq_true] at h1 h2
      rw [h1, h2]
    exact (x32_eq h xi32_0).1 e
theorem mb_shl0 : ∀ n : Fin 8, ∀ k : Fin 32, (Int32.ofInt 1 <<< (Int32.ofInt (n.val : Int) &&& 31)).toBitVec.getLsbD k.val = decide (k.val = n.val) := by decide +kernel
theorem mb_shl {n k : Nat} (hn : n < 8) (hk : k < 32) : mb (xshl 1 (n : Int)) k ↔ k = n := by
  unfold xshl
  rw [mb_to, mb_shl0 ⟨n, hn⟩ ⟨k, hk⟩, decide_eq_true_iff]
theorem mb_bit0 (b : BitVec 32) : (b &&& 1#32) ≠ 0#32 ↔ b.getLsbD 0 = true := by
  constructor
  · intro h
    refine Classical.byContradiction fun q => h ?_
    rw [Bool.not_eq_true] at q
    apply BitVec.eq_of_getLsbD_eq
    intro i hi
    rw [BitVec.getLsbD_and, BitVec.getLsbD_zero]
    by_cases z : i = 0
    · rw [z, q]; rfl
    · have : (1#32).getLsbD i = false := by
        rw [BitVec.getLsbD_one]
        simp [z]
      rw [this, Bool.and_false]
  · intro h q
    have : (b &&& 1#32).getLsbD 0 = (0#32).getLsbD 0 := by rw [q]
    rw [BitVec.getLsbD_and, BitVec.getLsbD_zero, h] at this
    exact absurd this (by decide)
theorem mb_t0 (v : Int32) (s : Nat) (hs : s < 8) (e : Int32.ofInt (s : Int) &&& 31 = Int32.ofInt (s : Int)) (e2 : (v >>> Int32.ofInt (s : Int)).toBitVec = v.toBitVec.sshiftRight s) : ((v >>> (Int32.ofInt (s : Int) &&& 31)) &&& Int32.ofInt 1).toInt ≠ 0 ↔ v.toBitVec.getLsbD s = true := by
  rw [e]
  have h1 : ((v >>> Int32.ofInt (s : Int)) &&& Int32.ofInt 1).toBitVec = v.toBitVec.sshiftRight s &&& 1#32 := by rw [Int32.toBitVec_and, e2]; rfl
  have h2 : ((v >>> Int32.ofInt (s : Int)) &&& Int32.ofInt 1).toInt = (v.toBitVec.sshiftRight s &&& 1#32).toInt := by rw [← h1]; rfl
  have h3 : (0 : Int) = (0#32).toInt := rfl
  rw [h2, h3, Ne, BitVec.toInt_inj]
  have h4 := mb_bit0 (v.toBitVec.sshiftRight s)
  have h5 : (v.toBitVec.sshiftRight s).getLsbD 0 = v.toBitVec.getLsbD s := by
    rw [BitVec.getLsbD_sshiftRight]
    simp
    omega
  rw [h5] at h4
  exact h4
theorem mb_test {m : Int} {n : Nat} (hn : n < 8) : xand (xshr m (n : Int)) 1 ≠ 0 ↔ mb m n := by
  unfold xand xshr mb
  rw [Int32.ofInt_toInt]
  generalize Int32.ofInt m = v
  have key : Int32.ofInt (n : Int) &&& 31 = Int32.ofInt (n : Int) ∧ (v >>> Int32.ofInt (n : Int)).toBitVec = v.toBitVec.sshiftRight n := by
    rcases show n = 0 ∨ n = 1 ∨ n = 2 ∨ n = 3 ∨ n = 4 ∨ n = 5 ∨ n = 6 ∨ n = 7 by omega with rfl | rfl | rfl | rfl | rfl | rfl | rfl | rfl
    · exact ⟨by decide, rfl⟩
    · exact ⟨by decide, rfl⟩
    · exact ⟨by decide, rfl⟩
    · exact ⟨by decide, rfl⟩
    · exact ⟨by decide, rfl⟩
    · exact ⟨by decide, rfl⟩
    · exact ⟨by decide, rfl⟩
    · exact ⟨by decide, rfl⟩
  exact mb_t0 v n hn key.1 key.2
theorem mk_0 : mk 0 := ⟨xi32_0, fun k _ _ => mb_0 k⟩
theorem mk_or {a b : Int} (ha : mk a) (hb : mk b) : mk (xor_ a b) := ⟨x32_r _, fun k h1 h2 q => ((mb_or a b k).1 q).elim (ha.2 k h1 h2) (hb.2 k h1 h2)⟩
theorem mk_shl {n : Nat} (hn : n < 8) : mk (xshl 1 (n : Int)) := ⟨x32_r _, fun k h1 h2 q => by have := (mb_shl hn h2).1 q; omega⟩
theorem mk_andn {a b : Int} (ha : mk a) : mk (xand a (xxor b (-1))) := ⟨x32_r _, fun k h1 h2 q => ha.2 k h1 h2 ((mb_andn a b h2).1 q).1⟩
theorem mk_zero {m : Int} (h : mk m) : m = 0 ↔ ∀ k, k < 8 → ¬ mb m k := by
  rw [mb_zero h.1]
  constructor
  · exact fun z k hk => z k (by omega)
  · intro z k hk
    by_cases q : k < 8
    · exact z k q
    · exact h.2 k (by omega) hk
/-- a name's bit is put -/
theorem mb_set {m : Int} {n k : Nat} (hn : n < 8) (hk : k < 8) : mb (xor_ m (xshl 1 (n : Int))) k ↔ mb m k ∨ k = n := by
  rw [mb_or, mb_shl hn (by omega)]
theorem mk_set {m : Int} {n : Nat} (h : mk m) (hn : n < 8) : mk (xor_ m (xshl 1 (n : Int))) := mk_or h (mk_shl hn)
theorem mk_ext {a b : Int} (ha : mk a) (hb : mk b) (h : ∀ k, k < 8 → (mb a k ↔ mb b k)) : a = b := by
  have e : Int32.ofInt a = Int32.ofInt b := by
    apply Int32.toBitVec_inj.1
    apply BitVec.eq_of_getLsbD_eq
    intro i hi
    have key : mb a i ↔ mb b i := by
      by_cases q : i < 8
      · exact h i q
      · exact ⟨fun z => absurd z (ha.2 i (by omega) hi), fun z => absurd z (hb.2 i (by omega) hi)⟩
    unfold mb at key
    exact Bool.eq_iff_iff.2 key
  exact (x32_eq ha.1 hb.1).1 e
