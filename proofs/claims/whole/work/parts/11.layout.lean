/-! THE LAYOUT behind the constructors (301 cells), and what is where -/
def SH : List (Nat × Nat) := [(6, 9), (6, 3), (4, 40), (6, 6), (0, 6), (0, 6), (0, 6), (6, 7), (6, 6), (0, 6), (0, 6), (0, 6), (6, 7), (6, 6), (0, 6), (0, 6), (0, 6), (6, 7), (6, 6), (0, 6), (0, 6), (0, 6), (6, 7), (6, 6), (0, 6), (0, 6), (0, 6), (6, 7), (6, 6), (0, 6), (0, 6), (0, 6), (6, 7), (6, 6), (0, 6), (0, 6), (0, 6), (6, 7), (6, 6), (0, 6), (0, 6), (0, 6), (6, 7), (6, 6), (0, 6), (0, 6), (0, 6), (6, 7), (6, 6), (0, 6), (0, 6), (0, 6), (6, 7), (6, 6), (0, 6), (0, 6), (0, 6), (6, 7), (6, 6), (0, 6), (0, 6), (0, 6), (6, 7), (6, 6), (0, 6), (0, 6), (0, 6), (6, 7), (6, 6), (0, 6), (0, 6), (0, 6), (6, 7), (6, 6), (0, 6), (0, 6), (0, 6), (6, 7), (6, 6), (0, 6), (0, 6), (0, 6), (6, 7), (6, 6), (0, 6), (0, 6), (0, 6), (6, 7), (6, 6), (0, 6), (0, 6), (0, 6), (6, 7), (6, 6), (0, 6), (0, 6), (0, 6), (6, 7), (6, 6), (0, 6), (0, 6), (0, 6), (6, 7), (6, 6), (0, 6), (0, 6), (0, 6), (6, 7), (6, 6), (0, 6), (0, 6), (0, 6), (6, 7), (6, 6), (0, 6), (0, 6), (0, 6), (6, 7), (6, 6), (0, 6), (0, 6), (0, 6), (6, 7), (6, 6), (0, 6), (0, 6), (0, 6), (6, 7), (6, 6), (0, 6), (0, 6), (0, 6), (6, 7), (6, 6), (0, 6), (0, 6), (0, 6), (6, 7), (6, 6), (0, 6), (0, 6), (0, 6), (6, 7), (6, 6), (0, 6), (0, 6), (0, 6), (6, 7), (6, 6), (0, 6), (0, 6), (0, 6), (6, 7), (6, 6), (0, 6), (0, 6), (0, 6), (6, 7), (6, 6), (0, 6), (0, 6), (0, 6), (6, 7), (6, 6), (0, 6), (0, 6), (0, 6), (6, 7), (6, 6), (0, 6), (0, 6), (0, 6), (6, 7), (6, 6), (0, 6), (0, 6), (0, 6), (6, 7), (6, 6), (0, 6), (0, 6), (0, 6), (6, 7), (6, 6), (0, 6), (0, 6), (0, 6), (6, 7), (6, 6), (0, 6), (0, 6), (0, 6), (6, 7), (6, 6), (0, 6), (0, 6), (0, 6), (6, 7), (6, 6), (0, 6), (0, 6), (0, 6), (6, 7), (6, 6), (0, 6), (0, 6), (0, 6), (6, 5), (0, 20), (0, 20), (0, 20), (6, 0), (2, 81), (6, 1), (6, 4), (1, 8), (1, 8), (1, 8), (1, 8), (0, 8), (0, 40), (0, 40), (0, 40), (1, 40), (0, 20), (0, 20), (0, 400), (0, 400), (1, 3200), (1, 3200), (2, 3200), (6, 1), (6, 4), (1, 8), (1, 8), (1, 8), (1, 8), (0, 8), (0, 40), (0, 40), (0, 40), (1, 40), (0, 45), (0, 45), (0, 2025), (0, 2025), (1, 16200), (1, 16200), (2, 16200), (6, 8), (5, 7), (0, 400), (0, 400), (0, 400), (0, 400), (0, 400), (0, 400), (0, 400), (0, 40), (6, 2), (2, 400), (2, 8000), (6, 2), (2, 400), (2, 8000), (6, 10), (0, 40), (0, 40), (0, 40), (0, 40), (0, 40), (0, 240), (0, 240), (3, 240), (0, 160), (0, 6), (0, 6), (3, 6), (0, 20), (0, 20), (0, 20), (0, 8000), (0, 400), (0, 400), (0, 8000), (0, 600), (0, 600), (0, 600), (0, 600), (0, 600), (0, 600), (0, 600), (0, 81), (1, 55688), (0, 55688), (0, 55688), (0, 55688), (1, 8), (0, 64), (3, 8), (3, 64)]
def NUT : List (Nat × Nat × Nat) := [(0, 0, 1), (0, 1, 207), (0, 2, 211), (0, 3, 213), (0, 4, 231), (0, 5, 249), (1, 0, 2), (1, 1, 3), (3, 0, 4), (3, 1, 5), (3, 2, 6), (207, 0, 208), (207, 1, 209), (207, 2, 210), (211, 0, 212), (213, 0, 1), (213, 1, 207), (213, 2, 211), (213, 5, 224), (213, 6, 225), (213, 7, 226), (213, 8, 227), (213, 9, 228), (213, 10, 229), (213, 11, 230), (213, 12, 214), (214, 0, 215), (214, 1, 216), (214, 2, 217), (214, 3, 218), (214, 4, 219), (214, 5, 220), (214, 6, 221), (214, 7, 222), (214, 8, 223), (231, 0, 1), (231, 1, 207), (231, 2, 211), (231, 5, 242), (231, 6, 243), (231, 7, 244), (231, 8, 245), (231, 9, 246), (231, 10, 247), (231, 11, 248), (231, 12, 232), (232, 0, 233), (232, 1, 234), (232, 2, 235), (232, 3, 236), (232, 4, 237), (232, 5, 238), (232, 6, 239), (232, 7, 240), (232, 8, 241), (249, 0, 1), (249, 1, 207), (249, 2, 250), (249, 3, 258), (259, 0, 260), (259, 1, 261), (262, 0, 263), (262, 1, 264), (265, 1, 266), (265, 2, 267), (265, 3, 268), (265, 4, 269), (265, 5, 270), (265, 6, 271), (265, 7, 272), (265, 8, 273), (265, 9, 274), (265, 11, 275), (265, 12, 276), (265, 13, 277), (265, 15, 278), (265, 16, 279), (265, 17, 280), (265, 21, 281), (265, 23, 282), (265, 24, 283), (265, 25, 284), (265, 28, 285), (265, 29, 286), (265, 30, 287), (265, 31, 288), (265, 32, 289), (265, 33, 290), (265, 34, 291), (265, 37, 292), (265, 38, 293), (265, 39, 294), (265, 40, 295), (265, 41, 296), (265, 43, 297), (265, 44, 298), (265, 45, 299), (265, 46, 300), (250, 0, 251), (250, 1, 252), (250, 2, 253), (250, 3, 254), (250, 4, 255), (250, 5, 256), (250, 6, 257)]
def WF (sh : List (Nat × Nat)) (ν : Nat → Nat → Option Nat) (f s : Nat) : Prop := sh = SH ∧ (∀ e ∈ NUT, ν e.1 e.2.1 = some e.2.2) ∧ (∀ r, r < 40 → ν 2 r = some (7 + 5 * r) ∧ ν (7 + 5 * r) 0 = some (7 + 5 * r + 1) ∧ ν (7 + 5 * r + 1) 0 = some (7 + 5 * r + 1 + 1) ∧ ν (7 + 5 * r + 1) 1 = some (7 + 5 * r + 1 + 2) ∧ ν (7 + 5 * r + 1) 2 = some (7 + 5 * r + 1 + 3)) ∧ ν 0 6 = some f ∧ ν 0 7 = some s ∧ ((f = 259 ∧ s = 262) ∨ (f = 262 ∧ s = 259))
def isRule (a : Nat) : Prop := ∃ r, r < 40 ∧ a = 7 + 5 * r
def isParts (a : Nat) : Prop := a = 3 ∨ ∃ r, r < 40 ∧ a = 7 + 5 * r + 1
def isChart (a : Nat) : Prop := a = 213 ∨ a = 231
def isKnot (a : Nat) : Prop := a = 214 ∨ a = 232
def isFront (a : Nat) : Prop := a = 259 ∨ a = 262
def nsp (a : Nat) : Nat := if a = 213 then 20 else 45
theorem SH_rule : ∀ r, r < 40 → SH[7 + 5 * r]? = some (6, 7) ∧ SH[7 + 5 * r + 1]? = some (6, 6) ∧ SH[7 + 5 * r + 1 + 1]? = some (0, 6) ∧ SH[7 + 5 * r + 1 + 2]? = some (0, 6) ∧ SH[7 + 5 * r + 1 + 3]? = some (0, 6) := by decide +kernel
section WFS
variable {sh : List (Nat × Nat)} {ν : Nat → Nat → Option Nat} {f s a : Nat}
theorem wf_f (hW : WF sh ν f s) : isFront f := by
  rcases hW.2.2.2.2.2 with ⟨h, -⟩ | ⟨h, -⟩
  · exact Or.inl h
  · exact Or.inr h
theorem wf_s (hW : WF sh ν f s) : isFront s := by
  rcases hW.2.2.2.2.2 with ⟨-, h⟩ | ⟨-, h⟩
  · exact Or.inr h
  · exact Or.inl h
theorem wf_nu (hW : WF sh ν f s) (i : Nat) {e : Nat × Nat × Nat} (h : NUT[i]? = some e) : ν e.1 e.2.1 = some e.2.2 := hW.2.1 e (List.mem_of_getElem? h)
theorem fe_rules (hW : WF sh ν f s) {i : Int} (h : 0 ≤ i ∧ i < (40 : Nat)) : ν 2 i.toNat = some (7 + 5 * i.toNat) := (hW.2.2.1 i.toNat (by omega)).1
theorem mk_rules {i : Int} (h : 0 ≤ i ∧ i < (40 : Nat)) : isRule (7 + 5 * i.toNat) := ⟨i.toNat, by omega, rfl⟩
theorem mk_rule_parts (h : isRule a) : isParts (a + 1) := by
  obtain ⟨r, hr, rfl⟩ := h
  exact Or.inr ⟨r, hr, rfl⟩
theorem mk_coll : isParts 3 := Or.inl rfl
theorem mk_free : isChart 213 := Or.inl rfl
theorem mk_bound : isChart 231 := Or.inr rfl
theorem mk_knot (h : isChart a) : isKnot (a + 1) := by
  rcases h with rfl | rfl
  · exact Or.inl rfl
  · exact Or.inr rfl
theorem fs_X0 (hW : WF sh ν f s) : sh[211]? = some (6, 0) := by rw [hW.1]; rfl
theorem fp_X0_0 (hW : WF sh ν f s) : ν 211 0 = some 212 := wf_nu hW 14 rfl
theorem fa_X0_0 (hW : WF sh ν f s) : sh[212]? = some (2, 81) := by rw [hW.1]; rfl
theorem fs_X1 (hW : WF sh ν f s) (hA : isChart a) : sh[a]? = some (6, 1) := by
  rw [hW.1]
  rcases hA with rfl | rfl <;> rfl
theorem fp_X1_0 (hW : WF sh ν f s) (hA : isChart a) : ν a 0 = some 1 := by
  rcases hA with rfl | rfl
  · exact wf_nu hW 15 rfl
  · exact wf_nu hW 35 rfl
theorem fp_X1_1 (hW : WF sh ν f s) (hA : isChart a) : ν a 1 = some 207 := by
  rcases hA with rfl | rfl
  · exact wf_nu hW 16 rfl
  · exact wf_nu hW 36 rfl
theorem fp_X1_2 (hW : WF sh ν f s) (hA : isChart a) : ν a 2 = some 211 := by
  rcases hA with rfl | rfl
  · exact wf_nu hW 17 rfl
  · exact wf_nu hW 37 rfl
theorem fp_X1_5 (hW : WF sh ν f s) (hA : isChart a) : ν a 5 = some (a + 11) := by
  rcases hA with rfl | rfl
  · exact wf_nu hW 18 rfl
  · exact wf_nu hW 38 rfl
theorem fa_X1_5 (hW : WF sh ν f s) (hA : isChart a) : sh[a + 11]? = some (0, nsp a) := by
  rw [hW.1]
  rcases hA with rfl | rfl <;> rfl
theorem fp_X1_6 (hW : WF sh ν f s) (hA : isChart a) : ν a 6 = some (a + 12) := by
  rcases hA with rfl | rfl
  · exact wf_nu hW 19 rfl
  · exact wf_nu hW 39 rfl
theorem fa_X1_6 (hW : WF sh ν f s) (hA : isChart a) : sh[a + 12]? = some (0, nsp a) := by
  rw [hW.1]
  rcases hA with rfl | rfl <;> rfl
theorem fp_X1_7 (hW : WF sh ν f s) (hA : isChart a) : ν a 7 = some (a + 13) := by
  rcases hA with rfl | rfl
  · exact wf_nu hW 20 rfl
  · exact wf_nu hW 40 rfl
theorem fa_X1_7 (hW : WF sh ν f s) (hA : isChart a) : sh[a + 13]? = some (0, nsp a * nsp a) := by
  rw [hW.1]
  rcases hA with rfl | rfl <;> rfl
theorem fp_X1_8 (hW : WF sh ν f s) (hA : isChart a) : ν a 8 = some (a + 14) := by
  rcases hA with rfl | rfl
  · exact wf_nu hW 21 rfl
  · exact wf_nu hW 41 rfl
theorem fa_X1_8 (hW : WF sh ν f s) (hA : isChart a) : sh[a + 14]? = some (0, nsp a * nsp a) := by
  rw [hW.1]
  rcases hA with rfl | rfl <;> rfl
theorem fp_X1_9 (hW : WF sh ν f s) (hA : isChart a) : ν a 9 = some (a + 15) := by
  rcases hA with rfl | rfl
  · exact wf_nu hW 22 rfl
  · exact wf_nu hW 42 rfl
theorem fa_X1_9 (hW : WF sh ν f s) (hA : isChart a) : sh[a + 15]? = some (1, nsp a * nsp a * 8) := by
  rw [hW.1]
  rcases hA with rfl | rfl <;> rfl
theorem fp_X1_10 (hW : WF sh ν f s) (hA : isChart a) : ν a 10 = some (a + 16) := by
  rcases hA with rfl | rfl
  · exact wf_nu hW 23 rfl
  · exact wf_nu hW 43 rfl
theorem fa_X1_10 (hW : WF sh ν f s) (hA : isChart a) : sh[a + 16]? = some (1, nsp a * nsp a * 8) := by
  rw [hW.1]
  rcases hA with rfl | rfl <;> rfl
theorem fp_X1_11 (hW : WF sh ν f s) (hA : isChart a) : ν a 11 = some (a + 17) := by
  rcases hA with rfl | rfl
  · exact wf_nu hW 24 rfl
  · exact wf_nu hW 44 rfl
theorem fa_X1_11 (hW : WF sh ν f s) (hA : isChart a) : sh[a + 17]? = some (2, nsp a * nsp a * 8) := by
  rw [hW.1]
  rcases hA with rfl | rfl <;> rfl
theorem fp_X1_12 (hW : WF sh ν f s) (hA : isChart a) : ν a 12 = some (a + 1) := by
  rcases hA with rfl | rfl
  · exact wf_nu hW 25 rfl
  · exact wf_nu hW 45 rfl
theorem fs_X2 (hW : WF sh ν f s) (hA : isFront a) : sh[a]? = some (6, 2) := by
  rw [hW.1]
  rcases hA with rfl | rfl <;> rfl
theorem fp_X2_0 (hW : WF sh ν f s) (hA : isFront a) : ν a 0 = some (a + 1) := by
  rcases hA with rfl | rfl
  · exact wf_nu hW 59 rfl
  · exact wf_nu hW 61 rfl
theorem fa_X2_0 (hW : WF sh ν f s) (hA : isFront a) : sh[a + 1]? = some (2, 400) := by
  rw [hW.1]
  rcases hA with rfl | rfl <;> rfl
theorem fp_X2_1 (hW : WF sh ν f s) (hA : isFront a) : ν a 1 = some (a + 2) := by
  rcases hA with rfl | rfl
  · exact wf_nu hW 60 rfl
  · exact wf_nu hW 62 rfl
theorem fa_X2_1 (hW : WF sh ν f s) (hA : isFront a) : sh[a + 2]? = some (2, 8000) := by
  rw [hW.1]
  rcases hA with rfl | rfl <;> rfl
theorem fs_X3 (hW : WF sh ν f s) : sh[1]? = some (6, 3) := by rw [hW.1]; rfl
theorem fp_X3_0 (hW : WF sh ν f s) : ν 1 0 = some 2 := wf_nu hW 6 rfl
theorem fa_X3_0 (hW : WF sh ν f s) : sh[2]? = some (4, 40) := by rw [hW.1]; rfl
theorem fp_X3_1 (hW : WF sh ν f s) : ν 1 1 = some 3 := wf_nu hW 7 rfl
theorem fs_X4 (hW : WF sh ν f s) (hA : isKnot a) : sh[a]? = some (6, 4) := by
  rw [hW.1]
  rcases hA with rfl | rfl <;> rfl
theorem fp_X4_0 (hW : WF sh ν f s) (hA : isKnot a) : ν a 0 = some (a + 1) := by
  rcases hA with rfl | rfl
  · exact wf_nu hW 26 rfl
  · exact wf_nu hW 46 rfl
theorem fa_X4_0 (hW : WF sh ν f s) (hA : isKnot a) : sh[a + 1]? = some (1, 8) := by
  rw [hW.1]
  rcases hA with rfl | rfl <;> rfl
theorem fp_X4_1 (hW : WF sh ν f s) (hA : isKnot a) : ν a 1 = some (a + 2) := by
  rcases hA with rfl | rfl
  · exact wf_nu hW 27 rfl
  · exact wf_nu hW 47 rfl
theorem fa_X4_1 (hW : WF sh ν f s) (hA : isKnot a) : sh[a + 2]? = some (1, 8) := by
  rw [hW.1]
  rcases hA with rfl | rfl <;> rfl
theorem fp_X4_2 (hW : WF sh ν f s) (hA : isKnot a) : ν a 2 = some (a + 3) := by
  rcases hA with rfl | rfl
  · exact wf_nu hW 28 rfl
  · exact wf_nu hW 48 rfl
theorem fa_X4_2 (hW : WF sh ν f s) (hA : isKnot a) : sh[a + 3]? = some (1, 8) := by
  rw [hW.1]
  rcases hA with rfl | rfl <;> rfl
theorem fp_X4_3 (hW : WF sh ν f s) (hA : isKnot a) : ν a 3 = some (a + 4) := by
  rcases hA with rfl | rfl
  · exact wf_nu hW 29 rfl
  · exact wf_nu hW 49 rfl
theorem fa_X4_3 (hW : WF sh ν f s) (hA : isKnot a) : sh[a + 4]? = some (1, 8) := by
  rw [hW.1]
  rcases hA with rfl | rfl <;> rfl
theorem fp_X4_4 (hW : WF sh ν f s) (hA : isKnot a) : ν a 4 = some (a + 5) := by
  rcases hA with rfl | rfl
  · exact wf_nu hW 30 rfl
  · exact wf_nu hW 50 rfl
theorem fa_X4_4 (hW : WF sh ν f s) (hA : isKnot a) : sh[a + 5]? = some (0, 8) := by
  rw [hW.1]
  rcases hA with rfl | rfl <;> rfl
theorem fp_X4_5 (hW : WF sh ν f s) (hA : isKnot a) : ν a 5 = some (a + 6) := by
  rcases hA with rfl | rfl
  · exact wf_nu hW 31 rfl
  · exact wf_nu hW 51 rfl
theorem fa_X4_5 (hW : WF sh ν f s) (hA : isKnot a) : sh[a + 6]? = some (0, 40) := by
  rw [hW.1]
  rcases hA with rfl | rfl <;> rfl
theorem fp_X4_6 (hW : WF sh ν f s) (hA : isKnot a) : ν a 6 = some (a + 7) := by
  rcases hA with rfl | rfl
  · exact wf_nu hW 32 rfl
  · exact wf_nu hW 52 rfl
theorem fa_X4_6 (hW : WF sh ν f s) (hA : isKnot a) : sh[a + 7]? = some (0, 40) := by
  rw [hW.1]
  rcases hA with rfl | rfl <;> rfl
theorem fp_X4_7 (hW : WF sh ν f s) (hA : isKnot a) : ν a 7 = some (a + 8) := by
  rcases hA with rfl | rfl
  · exact wf_nu hW 33 rfl
  · exact wf_nu hW 53 rfl
theorem fa_X4_7 (hW : WF sh ν f s) (hA : isKnot a) : sh[a + 8]? = some (0, 40) := by
  rw [hW.1]
  rcases hA with rfl | rfl <;> rfl
theorem fp_X4_8 (hW : WF sh ν f s) (hA : isKnot a) : ν a 8 = some (a + 9) := by
  rcases hA with rfl | rfl
  · exact wf_nu hW 34 rfl
  · exact wf_nu hW 54 rfl
theorem fa_X4_8 (hW : WF sh ν f s) (hA : isKnot a) : sh[a + 9]? = some (1, 40) := by
  rw [hW.1]
  rcases hA with rfl | rfl <;> rfl
theorem fs_X5 (hW : WF sh ν f s) : sh[207]? = some (6, 5) := by rw [hW.1]; rfl
theorem fp_X5_0 (hW : WF sh ν f s) : ν 207 0 = some 208 := wf_nu hW 11 rfl
theorem fa_X5_0 (hW : WF sh ν f s) : sh[208]? = some (0, 20) := by rw [hW.1]; rfl
theorem fp_X5_1 (hW : WF sh ν f s) : ν 207 1 = some 209 := wf_nu hW 12 rfl
theorem fa_X5_1 (hW : WF sh ν f s) : sh[209]? = some (0, 20) := by rw [hW.1]; rfl
theorem fp_X5_2 (hW : WF sh ν f s) : ν 207 2 = some 210 := wf_nu hW 13 rfl
theorem fa_X5_2 (hW : WF sh ν f s) : sh[210]? = some (0, 20) := by rw [hW.1]; rfl
theorem fs_X6 (hW : WF sh ν f s) (hA : isParts a) : sh[a]? = some (6, 6) := by
  rw [hW.1]
  rcases hA with rfl | ⟨r, hr, rfl⟩
  · rfl
  · exact (SH_rule r hr).2.1
theorem fp_X6_0 (hW : WF sh ν f s) (hA : isParts a) : ν a 0 = some (a + 1) := by
  rcases hA with rfl | ⟨r, hr, rfl⟩
  · exact wf_nu hW 8 rfl
  · exact (hW.2.2.1 r hr).2.2.1
theorem fa_X6_0 (hW : WF sh ν f s) (hA : isParts a) : sh[a + 1]? = some (0, 6) := by
  rw [hW.1]
  rcases hA with rfl | ⟨r, hr, rfl⟩
  · rfl
  · exact (SH_rule r hr).2.2.1
theorem fp_X6_1 (hW : WF sh ν f s) (hA : isParts a) : ν a 1 = some (a + 2) := by
  rcases hA with rfl | ⟨r, hr, rfl⟩
  · exact wf_nu hW 9 rfl
  · exact (hW.2.2.1 r hr).2.2.2.1
theorem fa_X6_1 (hW : WF sh ν f s) (hA : isParts a) : sh[a + 2]? = some (0, 6) := by
  rw [hW.1]
  rcases hA with rfl | ⟨r, hr, rfl⟩
  · rfl
  · exact (SH_rule r hr).2.2.2.1
theorem fp_X6_2 (hW : WF sh ν f s) (hA : isParts a) : ν a 2 = some (a + 3) := by
  rcases hA with rfl | ⟨r, hr, rfl⟩
  · exact wf_nu hW 10 rfl
  · exact (hW.2.2.1 r hr).2.2.2.2
theorem fa_X6_2 (hW : WF sh ν f s) (hA : isParts a) : sh[a + 3]? = some (0, 6) := by
  rw [hW.1]
  rcases hA with rfl | ⟨r, hr, rfl⟩
  · rfl
  · exact (SH_rule r hr).2.2.2.2
theorem fs_X7 (hW : WF sh ν f s) (hA : isRule a) : sh[a]? = some (6, 7) := by
  obtain ⟨r, hr, rfl⟩ := hA
  rw [hW.1]; exact (SH_rule r hr).1
theorem fp_X7_0 (hW : WF sh ν f s) (hA : isRule a) : ν a 0 = some (a + 1) := by
  obtain ⟨r, hr, rfl⟩ := hA
  exact (hW.2.2.1 r hr).2.1
theorem fs_X8 (hW : WF sh ν f s) : sh[249]? = some (6, 8) := by rw [hW.1]; rfl
theorem fp_X8_0 (hW : WF sh ν f s) : ν 249 0 = some 1 := wf_nu hW 55 rfl
theorem fp_X8_1 (hW : WF sh ν f s) : ν 249 1 = some 207 := wf_nu hW 56 rfl
theorem fp_X8_2 (hW : WF sh ν f s) : ν 249 2 = some 250 := wf_nu hW 57 rfl
theorem fa_X8_2 (hW : WF sh ν f s) : sh[250]? = some (5, 7) := by rw [hW.1]; rfl
theorem fp_X8_3 (hW : WF sh ν f s) : ν 249 3 = some 258 := wf_nu hW 58 rfl
theorem fa_X8_3 (hW : WF sh ν f s) : sh[258]? = some (0, 40) := by rw [hW.1]; rfl
theorem fs_X9 (hW : WF sh ν f s) : sh[0]? = some (6, 9) := by rw [hW.1]; rfl
theorem fp_X9_0 (hW : WF sh ν f s) : ν 0 0 = some 1 := wf_nu hW 0 rfl
theorem fp_X9_1 (hW : WF sh ν f s) : ν 0 1 = some 207 := wf_nu hW 1 rfl
theorem fp_X9_2 (hW : WF sh ν f s) : ν 0 2 = some 211 := wf_nu hW 2 rfl
theorem fp_X9_3 (hW : WF sh ν f s) : ν 0 3 = some 213 := wf_nu hW 3 rfl
theorem fp_X9_4 (hW : WF sh ν f s) : ν 0 4 = some 231 := wf_nu hW 4 rfl
theorem fp_X9_5 (hW : WF sh ν f s) : ν 0 5 = some 249 := wf_nu hW 5 rfl
theorem fp_X9_6 (hW : WF sh ν f s) : ν 0 6 = some f := hW.2.2.2.1
theorem fp_X9_7 (hW : WF sh ν f s) : ν 0 7 = some s := hW.2.2.2.2.1
theorem fs_X10 (hW : WF sh ν f s) : sh[265]? = some (6, 10) := by rw [hW.1]; rfl
theorem fp_X10_1 (hW : WF sh ν f s) : ν 265 1 = some 266 := wf_nu hW 63 rfl
theorem fa_X10_1 (hW : WF sh ν f s) : sh[266]? = some (0, 40) := by rw [hW.1]; rfl
theorem fp_X10_2 (hW : WF sh ν f s) : ν 265 2 = some 267 := wf_nu hW 64 rfl
theorem fa_X10_2 (hW : WF sh ν f s) : sh[267]? = some (0, 40) := by rw [hW.1]; rfl
theorem fp_X10_3 (hW : WF sh ν f s) : ν 265 3 = some 268 := wf_nu hW 65 rfl
theorem fa_X10_3 (hW : WF sh ν f s) : sh[268]? = some (0, 40) := by rw [hW.1]; rfl
theorem fp_X10_4 (hW : WF sh ν f s) : ν 265 4 = some 269 := wf_nu hW 66 rfl
theorem fa_X10_4 (hW : WF sh ν f s) : sh[269]? = some (0, 40) := by rw [hW.1]; rfl
theorem fp_X10_5 (hW : WF sh ν f s) : ν 265 5 = some 270 := wf_nu hW 67 rfl
theorem fa_X10_5 (hW : WF sh ν f s) : sh[270]? = some (0, 40) := by rw [hW.1]; rfl
theorem fp_X10_6 (hW : WF sh ν f s) : ν 265 6 = some 271 := wf_nu hW 68 rfl
theorem fa_X10_6 (hW : WF sh ν f s) : sh[271]? = some (0, 240) := by rw [hW.1]; rfl
theorem fp_X10_7 (hW : WF sh ν f s) : ν 265 7 = some 272 := wf_nu hW 69 rfl
theorem fa_X10_7 (hW : WF sh ν f s) : sh[272]? = some (0, 240) := by rw [hW.1]; rfl
theorem fp_X10_8 (hW : WF sh ν f s) : ν 265 8 = some 273 := wf_nu hW 70 rfl
theorem fa_X10_8 (hW : WF sh ν f s) : sh[273]? = some (3, 240) := by rw [hW.1]; rfl
theorem fp_X10_9 (hW : WF sh ν f s) : ν 265 9 = some 274 := wf_nu hW 71 rfl
theorem fa_X10_9 (hW : WF sh ν f s) : sh[274]? = some (0, 160) := by rw [hW.1]; rfl
theorem fp_X10_11 (hW : WF sh ν f s) : ν 265 11 = some 275 := wf_nu hW 72 rfl
theorem fa_X10_11 (hW : WF sh ν f s) : sh[275]? = some (0, 6) := by rw [hW.1]; rfl
theorem fp_X10_12 (hW : WF sh ν f s) : ν 265 12 = some 276 := wf_nu hW 73 rfl
theorem fa_X10_12 (hW : WF sh ν f s) : sh[276]? = some (0, 6) := by rw [hW.1]; rfl
theorem fp_X10_13 (hW : WF sh ν f s) : ν 265 13 = some 277 := wf_nu hW 74 rfl
theorem fa_X10_13 (hW : WF sh ν f s) : sh[277]? = some (3, 6) := by rw [hW.1]; rfl
theorem fp_X10_15 (hW : WF sh ν f s) : ν 265 15 = some 278 := wf_nu hW 75 rfl
theorem fa_X10_15 (hW : WF sh ν f s) : sh[278]? = some (0, 20) := by rw [hW.1]; rfl
theorem fp_X10_16 (hW : WF sh ν f s) : ν 265 16 = some 279 := wf_nu hW 76 rfl
theorem fa_X10_16 (hW : WF sh ν f s) : sh[279]? = some (0, 20) := by rw [hW.1]; rfl
theorem fp_X10_17 (hW : WF sh ν f s) : ν 265 17 = some 280 := wf_nu hW 77 rfl
theorem fa_X10_17 (hW : WF sh ν f s) : sh[280]? = some (0, 20) := by rw [hW.1]; rfl
theorem fp_X10_21 (hW : WF sh ν f s) : ν 265 21 = some 281 := wf_nu hW 78 rfl
theorem fa_X10_21 (hW : WF sh ν f s) : sh[281]? = some (0, 8000) := by rw [hW.1]; rfl
theorem fp_X10_23 (hW : WF sh ν f s) : ν 265 23 = some 282 := wf_nu hW 79 rfl
theorem fa_X10_23 (hW : WF sh ν f s) : sh[282]? = some (0, 400) := by rw [hW.1]; rfl
theorem fp_X10_24 (hW : WF sh ν f s) : ν 265 24 = some 283 := wf_nu hW 80 rfl
theorem fa_X10_24 (hW : WF sh ν f s) : sh[283]? = some (0, 400) := by rw [hW.1]; rfl
theorem fp_X10_25 (hW : WF sh ν f s) : ν 265 25 = some 284 := wf_nu hW 81 rfl
theorem fa_X10_25 (hW : WF sh ν f s) : sh[284]? = some (0, 8000) := by rw [hW.1]; rfl
theorem fp_X10_28 (hW : WF sh ν f s) : ν 265 28 = some 285 := wf_nu hW 82 rfl
theorem fa_X10_28 (hW : WF sh ν f s) : sh[285]? = some (0, 600) := by rw [hW.1]; rfl
theorem fp_X10_29 (hW : WF sh ν f s) : ν 265 29 = some 286 := wf_nu hW 83 rfl
theorem fa_X10_29 (hW : WF sh ν f s) : sh[286]? = some (0, 600) := by rw [hW.1]; rfl
theorem fp_X10_30 (hW : WF sh ν f s) : ν 265 30 = some 287 := wf_nu hW 84 rfl
theorem fa_X10_30 (hW : WF sh ν f s) : sh[287]? = some (0, 600) := by rw [hW.1]; rfl
theorem fp_X10_31 (hW : WF sh ν f s) : ν 265 31 = some 288 := wf_nu hW 85 rfl
theorem fa_X10_31 (hW : WF sh ν f s) : sh[288]? = some (0, 600) := by rw [hW.1]; rfl
theorem fp_X10_32 (hW : WF sh ν f s) : ν 265 32 = some 289 := wf_nu hW 86 rfl
theorem fa_X10_32 (hW : WF sh ν f s) : sh[289]? = some (0, 600) := by rw [hW.1]; rfl
theorem fp_X10_33 (hW : WF sh ν f s) : ν 265 33 = some 290 := wf_nu hW 87 rfl
theorem fa_X10_33 (hW : WF sh ν f s) : sh[290]? = some (0, 600) := by rw [hW.1]; rfl
theorem fp_X10_34 (hW : WF sh ν f s) : ν 265 34 = some 291 := wf_nu hW 88 rfl
theorem fa_X10_34 (hW : WF sh ν f s) : sh[291]? = some (0, 600) := by rw [hW.1]; rfl
theorem fp_X10_37 (hW : WF sh ν f s) : ν 265 37 = some 292 := wf_nu hW 89 rfl
theorem fa_X10_37 (hW : WF sh ν f s) : sh[292]? = some (0, 81) := by rw [hW.1]; rfl
theorem fp_X10_38 (hW : WF sh ν f s) : ν 265 38 = some 293 := wf_nu hW 90 rfl
theorem fa_X10_38 (hW : WF sh ν f s) : sh[293]? = some (1, 55688) := by rw [hW.1]; rfl
theorem fp_X10_39 (hW : WF sh ν f s) : ν 265 39 = some 294 := wf_nu hW 91 rfl
theorem fa_X10_39 (hW : WF sh ν f s) : sh[294]? = some (0, 55688) := by rw [hW.1]; rfl
theorem fp_X10_40 (hW : WF sh ν f s) : ν 265 40 = some 295 := wf_nu hW 92 rfl
theorem fa_X10_40 (hW : WF sh ν f s) : sh[295]? = some (0, 55688) := by rw [hW.1]; rfl
theorem fp_X10_41 (hW : WF sh ν f s) : ν 265 41 = some 296 := wf_nu hW 93 rfl
theorem fa_X10_41 (hW : WF sh ν f s) : sh[296]? = some (0, 55688) := by rw [hW.1]; rfl
theorem fp_X10_43 (hW : WF sh ν f s) : ν 265 43 = some 297 := wf_nu hW 94 rfl
theorem fa_X10_43 (hW : WF sh ν f s) : sh[297]? = some (1, 8) := by rw [hW.1]; rfl
theorem fp_X10_44 (hW : WF sh ν f s) : ν 265 44 = some 298 := wf_nu hW 95 rfl
theorem fa_X10_44 (hW : WF sh ν f s) : sh[298]? = some (0, 64) := by rw [hW.1]; rfl
theorem fp_X10_45 (hW : WF sh ν f s) : ν 265 45 = some 299 := wf_nu hW 96 rfl
theorem fa_X10_45 (hW : WF sh ν f s) : sh[299]? = some (3, 8) := by rw [hW.1]; rfl
theorem fp_X10_46 (hW : WF sh ν f s) : ν 265 46 = some 300 := wf_nu hW 97 rfl
theorem fa_X10_46 (hW : WF sh ν f s) : sh[300]? = some (3, 64) := by rw [hW.1]; rfl
theorem fe_pile0 (hW : WF sh ν f s) : ν 250 (Int.toNat 0) = some 251 := wf_nu hW 98 rfl
theorem fz_pile0 (hW : WF sh ν f s) : sh[251]? = some (0, 400) := by rw [hW.1]; rfl
theorem fe_pile1 (hW : WF sh ν f s) : ν 250 (Int.toNat 1) = some 252 := wf_nu hW 99 rfl
theorem fz_pile1 (hW : WF sh ν f s) : sh[252]? = some (0, 400) := by rw [hW.1]; rfl
theorem fe_pile2 (hW : WF sh ν f s) : ν 250 (Int.toNat 2) = some 253 := wf_nu hW 100 rfl
theorem fz_pile2 (hW : WF sh ν f s) : sh[253]? = some (0, 400) := by rw [hW.1]; rfl
theorem fe_pile3 (hW : WF sh ν f s) : ν 250 (Int.toNat 3) = some 254 := wf_nu hW 101 rfl
theorem fz_pile3 (hW : WF sh ν f s) : sh[254]? = some (0, 400) := by rw [hW.1]; rfl
theorem fe_pile4 (hW : WF sh ν f s) : ν 250 (Int.toNat 4) = some 255 := wf_nu hW 102 rfl
theorem fz_pile4 (hW : WF sh ν f s) : sh[255]? = some (0, 400) := by rw [hW.1]; rfl
theorem fe_pile5 (hW : WF sh ν f s) : ν 250 (Int.toNat 5) = some 256 := wf_nu hW 103 rfl
theorem fz_pile5 (hW : WF sh ν f s) : sh[256]? = some (0, 400) := by rw [hW.1]; rfl
theorem fe_pile6 (hW : WF sh ν f s) : ν 250 (Int.toNat 6) = some 257 := wf_nu hW 104 rfl
theorem fz_pile6 (hW : WF sh ν f s) : sh[257]? = some (0, 400) := by rw [hW.1]; rfl
end WFS
theorem X.pick {M : xM} {pc : Nat} {ls ls' : List (Nat × xV)} {st : List xV} {sh : List (Nat × Nat)} {ν : Nat → Nat → Option Nat} {μ : Nat → Nat → Int} {k n : Nat} {Q : xQ} (ps : List Nat) (h : ps.filterMap (fun i => ls[i]?) = ls') (K : X M pc ls' st sh ν μ k n Q) : X M pc ls st sh ν μ k n Q := by
  subst h
  refine X.sub (fun q hq => ?_) K
  obtain ⟨i, -, hi⟩ := List.mem_filterMap.mp hq
  exact List.mem_of_getElem? hi
