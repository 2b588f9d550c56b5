/-! THE PURE MACHINE: values, memory, worlds; numbers are mathematical integers -/
abbrev xV : Type := Sum Int (Sum Int (Option Nat))
abbrev vI (x : Int) : xV := Sum.inl x
abbrev vL (x : Int) : xV := Sum.inr (Sum.inl x)
abbrev vR (a : Nat) : xV := Sum.inr (Sum.inr (some a))
abbrev vN : xV := Sum.inr (Sum.inr none)
def xtr (base : Nat) : xV → Value
  | .inl x => .int (Int32.ofInt x)
  | .inr (.inl x) => .long (Int64.ofInt x)
  | .inr (.inr none) => .null
  | .inr (.inr (some a)) => .ref (base + a)
def xi32 (x : Int) : Prop := -2147483648 ≤ x ∧ x ≤ 2147483647
def xi64 (x : Int) : Prop := -9223372036854775808 ≤ x ∧ x ≤ 9223372036854775807
def w32 (x : Int) : Int := Int.bmod x 4294967296
def w64 (x : Int) : Int := Int.bmod x 18446744073709551616
def w8 (x : Int) : Int := Int.bmod x 256
def xcat : xV → Nat
  | .inr (.inl _) => 2
  | _ => 1
def xok (K : Nat) : xV → Prop
  | .inl x => xi32 x
  | .inr (.inl x) => xi64 x
  | .inr (.inr none) => True
  | .inr (.inr (some a)) => a < K
theorem w32_r (x : Int) : xi32 (w32 x) := by
  unfold xi32 w32
  have h1 := Int.le_bmod (x := x) (m := 4294967296) (by decide)
  have h2 := Int.bmod_lt (x := x) (m := 4294967296) (by decide)
  omega
theorem w64_r (x : Int) : xi64 (w64 x) := by
  unfold xi64 w64
  have h1 := Int.le_bmod (x := x) (m := 18446744073709551616) (by decide)
  have h2 := Int.bmod_lt (x := x) (m := 18446744073709551616) (by decide)
  omega
theorem w8_r (x : Int) : -128 ≤ w8 x ∧ w8 x ≤ 127 := by
  unfold w8
  have h1 := Int.le_bmod (x := x) (m := 256) (by decide)
  have h2 := Int.bmod_lt (x := x) (m := 256) (by decide)
  omega
theorem w32_id {x : Int} (h1 : -2147483648 ≤ x) (h2 : x ≤ 2147483647) : w32 x = x := by
  unfold w32
  rw [Int.bmod_eq_of_le] <;> omega
theorem w64_id {x : Int} (h1 : -9223372036854775808 ≤ x) (h2 : x ≤ 9223372036854775807) : w64 x = x := by
  unfold w64
  rw [Int.bmod_eq_of_le] <;> omega
theorem w8_id {x : Int} (h1 : -128 ≤ x) (h2 : x ≤ 127) : w8 x = x := by
  unfold w8
  rw [Int.bmod_eq_of_le] <;> omega
theorem x32_to {x : Int} (h : xi32 x) : (Int32.ofInt x).toInt = x := by
  obtain ⟨h1, h2⟩ := h
  exact Int32.toInt_ofInt_of_le (by omega) (by omega)
theorem x64_to {x : Int} (h : xi64 x) : (Int64.ofInt x).toInt = x := by
  obtain ⟨h1, h2⟩ := h
  exact Int64.toInt_ofInt_of_le (by omega) (by omega)
theorem x32_w (x : Int) : Int32.ofInt (w32 x) = Int32.ofInt x := by
  apply Int32.toInt.inj
  rw [x32_to (w32_r x), Int32.toInt_ofInt]
  rfl
theorem x64_w (x : Int) : Int64.ofInt (w64 x) = Int64.ofInt x := by
  apply Int64.toInt.inj
  rw [x64_to (w64_r x), Int64.toInt_ofInt]
  rfl
theorem x32_lt {x y : Int} (hx : xi32 x) (hy : xi32 y) : Int32.ofInt x < Int32.ofInt y ↔ x < y := by
  rw [Int32.lt_iff_toInt_lt, x32_to hx, x32_to hy]
theorem x32_le {x y : Int} (hx : xi32 x) (hy : xi32 y) : Int32.ofInt x ≤ Int32.ofInt y ↔ x ≤ y := by
  rw [Int32.le_iff_toInt_le, x32_to hx, x32_to hy]
theorem x32_eq {x y : Int} (hx : xi32 x) (hy : xi32 y) : Int32.ofInt x = Int32.ofInt y ↔ x = y := by
  rw [← Int32.toInt_inj, x32_to hx, x32_to hy]
theorem x64_eq {x y : Int} (hx : xi64 x) (hy : xi64 y) : Int64.ofInt x = Int64.ofInt y ↔ x = y := by
  rw [← Int64.toInt_inj, x64_to hx, x64_to hy]
theorem x64_lt {x y : Int} (hx : xi64 x) (hy : xi64 y) : Int64.ofInt x < Int64.ofInt y ↔ x < y := by
  rw [Int64.lt_iff_toInt_lt, x64_to hx, x64_to hy]
theorem xi32_0 : xi32 0 := ⟨by decide, by decide⟩
theorem x32_r (z : Int32) : xi32 z.toInt := by
  have h1 := Int32.toInt_lt z
  have h2 := Int32.le_toInt z
  unfold xi32
  omega
theorem x64_r (z : Int64) : xi64 z.toInt := by
  have h1 := Int64.toInt_lt z
  have h2 := Int64.le_toInt z
  unfold xi64
  omega
theorem x32_add (a b : Int) : Int32.ofInt a + Int32.ofInt b = Int32.ofInt (w32 (a + b)) := by rw [x32_w, Int32.ofInt_add]
theorem x32_sub (a b : Int) : Int32.ofInt a - Int32.ofInt b = Int32.ofInt (w32 (a - b)) := by rw [x32_w, Int32.ofInt_sub]
theorem x32_mul (a b : Int) : Int32.ofInt a * Int32.ofInt b = Int32.ofInt (w32 (a * b)) := by rw [x32_w, Int32.ofInt_mul]
theorem x64_add (a b : Int) : Int64.ofInt a + Int64.ofInt b = Int64.ofInt (w64 (a + b)) := by rw [x64_w, Int64.ofInt_add]
theorem x64_mul (a b : Int) : Int64.ofInt a * Int64.ofInt b = Int64.ofInt (w64 (a * b)) := by rw [x64_w, Int64.ofInt_mul]
theorem x32_div {a b : Int} (ha : xi32 a) (hb : xi32 b) : Int32.ofInt a / Int32.ofInt b = Int32.ofInt (w32 (Int.tdiv a b)) := by
  apply Int32.toInt.inj
  rw [Int32.toInt_div, x32_to ha, x32_to hb, x32_to (w32_r _)]
  rfl
theorem x64_div {a b : Int} (ha : xi64 a) (hb : xi64 b) : Int64.ofInt a / Int64.ofInt b = Int64.ofInt (w64 (Int.tdiv a b)) := by
  apply Int64.toInt.inj
  rw [Int64.toInt_div, x64_to ha, x64_to hb, x64_to (w64_r _)]
  rfl
theorem x_tmod (a b : Int) : a - Int.tdiv a b * b = Int.tmod a b := by
  have := Int.tdiv_mul_add_tmod a b
  omega
theorem x32_rem {a b : Int} (ha : xi32 a) (hb : xi32 b) : Int32.ofInt a - Int32.ofInt a / Int32.ofInt b * Int32.ofInt b = Int32.ofInt (w32 (Int.tmod a b)) := by
  rw [x32_div ha hb, x32_w, ← Int32.ofInt_mul, ← Int32.ofInt_sub, x_tmod, x32_w]
theorem x64_rem {a b : Int} (ha : xi64 a) (hb : xi64 b) : Int64.ofInt a - Int64.ofInt a / Int64.ofInt b * Int64.ofInt b = Int64.ofInt (w64 (Int.tmod a b)) := by
  rw [x64_div ha hb, x64_w, ← Int64.ofInt_mul, ← Int64.ofInt_sub, x_tmod, x64_w]
def xand (a b : Int) : Int := (Int32.ofInt a &&& Int32.ofInt b).toInt
def xor_ (a b : Int) : Int := (Int32.ofInt a ||| Int32.ofInt b).toInt
def xxor (a b : Int) : Int := (Int32.ofInt a ^^^ Int32.ofInt b).toInt
def xshl (a b : Int) : Int := (Int32.ofInt a <<< (Int32.ofInt b &&& 31)).toInt
def xshr (a b : Int) : Int := (Int32.ofInt a >>> (Int32.ofInt b &&& 31)).toInt
def xushr (a b : Int) : Int := (((Int32.ofInt a).toUInt32 >>> ((Int32.ofInt b).toUInt32 &&& Int32.toUInt32 31)).toInt32).toInt
def xlcmp (a b : Int) : Int := if b < a then 1 else if a = b then 0 else -1
theorem x_lcmp {a b : Int} (ha : xi64 a) (hb : xi64 b) : lg_cmp (Int64.ofInt a) (Int64.ofInt b) = Int32.ofInt (xlcmp a b) := by
  unfold lg_cmp xlcmp
  by_cases h1 : b < a
  · rw [if_pos h1, if_pos ((x64_lt hb ha).mpr h1)]; rfl
  · rw [if_neg h1, if_neg (fun h => h1 ((x64_lt hb ha).mp h))]
    by_cases h2 : a = b
    · rw [if_pos h2, if_pos ((x64_eq ha hb).mpr h2)]; rfl
    · rw [if_neg h2, if_neg (fun h => h2 ((x64_eq ha hb).mp h))]; rfl
theorem xlcmp_r (a b : Int) : xi32 (xlcmp a b) := by
  unfold xlcmp xi32
  split
  · omega
  · split <;> omega
/-! types of fields, shapes of cells -/
def xfT : Nat → Nat → FieldType
  | 0 => tyX0
  | 1 => tyX1
  | 2 => tyX2
  | 3 => tyX3
  | 4 => tyX4
  | 5 => tyX5
  | 6 => tyX6
  | 7 => tyX7
  | 8 => tyX8
  | 9 => tyX9
  | 10 => tyX10
  | _ => fun _ => .int
def xN : Nat → Nat
  | 0 => 3
  | 1 => 14
  | 2 => 6
  | 3 => 3
  | 4 => 11
  | 5 => 4
  | 6 => 6
  | 7 => 9
  | 8 => 12
  | 9 => 9
  | 10 => 51
  | _ => 0
def xkt : Nat → FieldType
  | 0 => .int
  | 1 => .long
  | 2 => .byte
  | 3 => .boolean
  | 4 => .object RX7
  | _ => .array .int
def xrg (ty : FieldType) (x : Int) : Prop := match ty with
  | .long => xi64 x
  | .byte => -128 ≤ x ∧ x ≤ 127
  | .boolean => x = 0 ∨ x = 1
  | _ => xi32 x
theorem xrg_0 (ty : FieldType) : xrg ty 0 := by
  cases ty <;> first | exact Or.inl rfl | exact ⟨by decide, by decide⟩
def xF (base : Nat) (ty : FieldType) (r : Option Nat) (v : Int) : Value := match ty with
  | .object _ => va_rf (r.map (base + ·))
  | .array _ => va_rf (r.map (base + ·))
  | _ => .int (Int32.ofInt v)
/-- the type of a place of a cell -/
def xty (s : Nat × Nat) (i : Nat) : FieldType := if s.1 ≤ 5 then xkt s.1 else xfT s.2 i
def xE (cy : Nat → ClassId) (base : Nat) (s : Nat × Nat) (r : Nat → Option Nat) (v : Nat → Int) : va_E := match s.1 with
  | 0 => .inl (cy 0, s.2, .inl fun i => Int32.ofInt (v i))
  | 1 => .inl (cy 1, s.2, .inr (.inl fun i => Int64.ofInt (v i)))
  | 2 => .inl (cy 2, s.2, .inl fun i => Int32.ofInt (v i))
  | 3 => .inl (cy 3, s.2, .inl fun i => Int32.ofInt (v i))
  | 4 => .inl (cy 4, s.2, .inr (.inr (.inr (.inr fun i => (r i).map (base + ·)))))
  | 5 => .inl (cy 5, s.2, .inr (.inr (.inr (.inr fun i => (r i).map (base + ·)))))
  | _ => .inr (s.2, (List.range (xN s.2)).map fun k => xF base (xfT s.2 k) (r k) (v k))
def xW (cy : Nat → ClassId) (base : Nat) (sh : List (Nat × Nat)) (ν : Nat → Nat → Option Nat) (μ : Nat → Nat → Int) : va_W := (List.range sh.length).map fun k => (base + k, xE cy base (sh.getD k (7, 0)) (ν k) (μ k))
def xcell (K : Nat) (s : Nat × Nat) (r : Nat → Option Nat) (v : Nat → Int) : Prop := (∀ i, xrg (xty s i) (v i)) ∧ ∀ i b, r i = some b → b < K
def xOKh (sh : List (Nat × Nat)) (ν : Nat → Nat → Option Nat) (μ : Nat → Nat → Int) : Prop := ∀ k s, sh[k]? = some s → xcell sh.length s (ν k) (μ k)
def xRep (D : va_G) (cy : Nat → ClassId) (base : Nat) (sh : List (Nat × Nat)) (ν : Nat → Nat → Option Nat) (μ : Nat → Nat → Int) (H : Heap) : Prop := H.size = base + sh.length ∧ va_P D vwCl (xW cy base sh ν μ) H ∧ xOKh sh ν μ
def xtys (cy : Nat → ClassId) : List (ClassId × FieldType) := [(cy 0, .int), (cy 1, .long), (cy 2, .byte), (cy 3, .boolean), (cy 4, .object RX7), (cy 5, .array .int)]
def up (μ : Nat → Nat → Int) (a k : Nat) (v : Int) : Nat → Nat → Int := fun b j => if b = a ∧ j = k then v else μ b j
def upr (ν : Nat → Nat → Option Nat) (a k : Nat) (v : Option Nat) : Nat → Nat → Option Nat := fun b j => if b = a ∧ j = k then v else ν b j
def zr (μ : Nat → Nat → Int) (a : Nat) : Nat → Nat → Int := fun b j => if b = a then 0 else μ b j
def zrr (ν : Nat → Nat → Option Nat) (a : Nat) : Nat → Nat → Option Nat := fun b j => if b = a then none else ν b j
theorem up_s (μ : Nat → Nat → Int) (a k : Nat) (v : Int) : up μ a k v a k = v := if_pos ⟨rfl, rfl⟩
theorem up_a {μ : Nat → Nat → Int} {a k b : Nat} {v : Int} (h : b ≠ a) (j : Nat) : up μ a k v b j = μ b j := if_neg fun q => h q.1
theorem up_k {μ : Nat → Nat → Int} {a k j : Nat} {v : Int} (h : j ≠ k) (b : Nat) : up μ a k v b j = μ b j := if_neg fun q => h q.2
theorem xW_len {cy : Nat → ClassId} {base : Nat} {sh : List (Nat × Nat)} {ν : Nat → Nat → Option Nat} {μ : Nat → Nat → Int} : (xW cy base sh ν μ).length = sh.length := by simp [xW]
theorem xW_get {cy : Nat → ClassId} {base : Nat} {sh : List (Nat × Nat)} {ν : Nat → Nat → Option Nat} {μ : Nat → Nat → Int} {k : Nat} {s : Nat × Nat} (h : sh[k]? = some s) : (xW cy base sh ν μ)[k]? = some (base + k, xE cy base s (ν k) (μ k)) := by
  have hk : k < sh.length := (List.getElem?_eq_some_iff.mp h).1
  simp [xW, List.getElem?_range hk, h]
theorem xW_none {cy : Nat → ClassId} {base : Nat} {sh : List (Nat × Nat)} {ν : Nat → Nat → Option Nat} {μ : Nat → Nat → Int} {k : Nat} {q : Nat × va_E} (h : (xW cy base sh ν μ)[k]? = some q) : ∃ s, sh[k]? = some s ∧ q = (base + k, xE cy base s (ν k) (μ k)) := by
  have hk : k < sh.length := by
    have := (List.getElem?_eq_some_iff.mp h).1
    rwa [xW_len] at this
  have h2 : sh[k]? = some sh[k] := List.getElem?_eq_getElem hk
  exact ⟨_, h2, Option.some.inj (h.symm.trans (xW_get h2))⟩
theorem xW_set {cy : Nat → ClassId} {base : Nat} {sh : List (Nat × Nat)} {ν ν' : Nat → Nat → Option Nat} {μ μ' : Nat → Nat → Int} {k : Nat} {s : Nat × Nat} {e : va_E} (h : sh[k]? = some s) (hν : ∀ b, b ≠ k → ν' b = ν b) (hμ : ∀ b, b ≠ k → μ' b = μ b) (he : e = xE cy base s (ν' k) (μ' k)) :
    (xW cy base sh ν μ).set k (base + k, e) = xW cy base sh ν' μ' := by
  have hk : k < sh.length := (List.getElem?_eq_some_iff.mp h).1
  apply List.ext_getElem?
  intro i
  by_cases hi : i = k
  · subst hi
    rw [List.getElem?_set_self (by rw [xW_len]; exact hk), xW_get h, he]
  · rw [List.getElem?_set_ne (fun q => hi q.symm)]
    by_cases hl : i < sh.length
    · have h2 : sh[i]? = some sh[i] := List.getElem?_eq_getElem hl
      rw [xW_get h2, xW_get h2, hν i hi, hμ i hi]
    · rw [List.getElem?_eq_none (by rw [xW_len]; omega), List.getElem?_eq_none (by rw [xW_len]; omega)]
theorem xW_push {cy : Nat → ClassId} {base : Nat} {sh : List (Nat × Nat)} {ν ν' : Nat → Nat → Option Nat} {μ μ' : Nat → Nat → Int} {s : Nat × Nat} {e : va_E} (hν : ∀ b, b < sh.length → ν' b = ν b) (hμ : ∀ b, b < sh.length → μ' b = μ b) (he : e = xE cy base s (ν' sh.length) (μ' sh.length)) :
    xW cy base sh ν μ ++ [(base + sh.length, e)] = xW cy base (sh ++ [s]) ν' μ' := by
  apply List.ext_getElem?
  intro i
  by_cases hl : i < sh.length
  · have h2 : sh[i]? = some sh[i] := List.getElem?_eq_getElem hl
    have h3 : (sh ++ [s])[i]? = some sh[i] := by rw [List.getElem?_append_left hl, h2]
    rw [List.getElem?_append_left (by rw [xW_len]; exact hl), xW_get h2, xW_get h3, hν i hl, hμ i hl]
  · by_cases he2 : i = sh.length
    · subst he2
      have h3 : (sh ++ [s])[sh.length]? = some s := by simp
      rw [List.getElem?_append_right (by rw [xW_len]; omega), xW_len, xW_get h3, he]
      simp
    · rw [List.getElem?_eq_none (by simp [xW_len]; omega), List.getElem?_eq_none (by simp [xW_len]; omega)]
theorem xW_D {cy : Nat → ClassId} {base : Nat} {sh : List (Nat × Nat)} {ν : Nat → Nat → Option Nat} {μ : Nat → Nat → Int} : va_D (fun q : Nat => base ≤ q) (xW cy base sh ν μ) := by
  refine ⟨fun i j p q hp hq he => ?_, fun k q hk => ?_⟩
  · obtain ⟨s, -, rfl⟩ := xW_none hp
    obtain ⟨s, -, rfl⟩ := xW_none hq
    have : base + i = base + j := he
    omega
  · obtain ⟨s, -, rfl⟩ := xW_none hk
    exact Nat.le_add_right _ _
theorem xOKh_mu {sh : List (Nat × Nat)} {ν : Nat → Nat → Option Nat} {μ : Nat → Nat → Int} {a k : Nat} {s : Nat × Nat} {v : Int} (h : xOKh sh ν μ) (hs : sh[a]? = some s) (hv : xrg (xty s k) v) : xOKh sh ν (up μ a k v) := by
  intro b t ht
  obtain ⟨h1, h2⟩ := h b t ht
  refine ⟨fun i => ?_, h2⟩
  unfold up
  split
  · rename_i hq
    obtain ⟨rfl, rfl⟩ := hq
    cases hs.symm.trans ht
    exact hv
  · exact h1 i
theorem xOKh_nu {sh : List (Nat × Nat)} {ν : Nat → Nat → Option Nat} {μ : Nat → Nat → Int} {a k : Nat} {v : Option Nat} (h : xOKh sh ν μ) (hv : ∀ b, v = some b → b < sh.length) : xOKh sh (upr ν a k v) μ := by
  intro b t ht
  obtain ⟨h1, h2⟩ := h b t ht
  refine ⟨h1, fun i c hc => ?_⟩
  unfold upr at hc
  split at hc
  · exact hv c hc
  · exact h2 i c hc
theorem xOKh_push {sh : List (Nat × Nat)} {ν ν' : Nat → Nat → Option Nat} {μ μ' : Nat → Nat → Int} {s : Nat × Nat} (h : xOKh sh ν μ) (hν : ∀ b, b < sh.length → ν' b = ν b) (hμ : ∀ b, b < sh.length → μ' b = μ b) (hs : xcell (sh.length + 1) s (ν' sh.length) (μ' sh.length)) : xOKh (sh ++ [s]) ν' μ' := by
  intro b t ht
  have hlen : (sh ++ [s]).length = sh.length + 1 := by simp
  rw [hlen]
  by_cases hl : b < sh.length
  · rw [List.getElem?_append_left hl] at ht
    obtain ⟨h1, h2⟩ := h b t ht
    rw [hν b hl, hμ b hl]
    exact ⟨h1, fun i c hc => Nat.lt_succ_of_lt (h2 i c hc)⟩
  · have hb : b = sh.length := by
      have := (List.getElem?_eq_some_iff.mp ht).1
      rw [hlen] at this
      omega
    subst hb
    have : t = s := by simpa using ht.symm
    subst this
    exact hs
