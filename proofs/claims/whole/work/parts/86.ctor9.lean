/-! constructors: the charts whole; the class object -/
theorem c_X1_init_213 {ν : Nat → Nat → Option Nat} {μ : Nat → Nat → Int} {Q : xQ} (hF : Fr 214 ν μ) (k : ∀ μ' : Nat → Nat → Int, (chA μ' 213 ∧ μ' 213 13 = 0) → (∀ b, b < 213 → μ' b = μ b) → (∀ b, 214 < b → b ≠ 224 → b ≠ 225 → μ' b = fun _ => 0) → Fr 231 (nuT213 (nuA213 ν)) μ' → Q none (SH.take 231) (nuT213 (nuA213 ν)) μ') : X mX1_init 0 [(0, vR 213), (1, vR 1), (2, vR 207), (3, vR 211), (4, vI 0)] [] (SH.take 214) ν μ 0 0 Q := by
  have e4 : muA213 μ 213 4 = 20 := by unfold muA213; simp (disch := decide) only [up_s, up_a', up_k']
  have e3 : muA213 μ 213 3 = 0 := by unfold muA213; simp (disch := decide) only [up_s, up_a', up_k']
  have e13 : muA213 μ 213 13 = 0 := by unfold muA213; simp (disch := decide) only [up_s, up_a', up_k']
  have hm : ∀ b, b < 213 → muA213 μ b = μ b := fun b hb => by unfold muA213; simp (disch := omega) only [up_o']
  have hz : ∀ b, 214 < b → muA213 μ b = fun _ => 0 := fun b hb => by
    have h0 := (hF b (by omega)).2
    unfold muA213; simp (disch := omega) only [up_o']; exact h0
  have hn : ∀ b, 214 < b → nuA213 ν b = fun _ => none := fun b hb => by
    have h0 := (hF b (by omega)).1
    unfold nuA213; simp (disch := omega) only [upr_o']; exact h0
  refine s_X1_A213 hF ?_
  refine s_X1_L213 (by unfold nuA213; simp (disch := decide) only [upr_s, upr_a', upr_k']) (by unfold nuA213; simp (disch := decide) only [upr_s, upr_a', upr_k']) e4 fun m m1 m2 => ?_
  have f4 : m 213 4 = 20 := by rw [m2 213 (by decide) (by decide)]; exact e4
  refine s_X1_T213 f4 (fun b hb => ⟨hn b (by omega), by rw [m2 b (by omega) (by omega)]; exact hz b (by omega)⟩) ?_
  refine k m ⟨⟨by rw [m2 213 (by decide) (by decide)]; exact e3, f4, fun s hs => m1 s hs⟩, by rw [m2 213 (by decide) (by decide)]; exact e13⟩ (fun b hb => by rw [m2 b (by omega) (by omega)]; exact hm b hb) (fun b b0 b1 b2 => by rw [m2 b b1 b2]; exact hz b b0) (fun b hb => ⟨?_, by rw [m2 b (by omega) (by omega)]; exact hz b (by omega)⟩)
  have h0 := hn b (by omega)
  unfold nuT213; simp (disch := omega) only [upr_o']; exact h0
theorem nuX213_a {ν : Nat → Nat → Option Nat} {b : Nat} (h : b < 213) (j : Nat) : nuT213 (nuA213 ν) b j = ν b j := by unfold nuT213 nuA213; simp (disch := omega) only [upr_a']
theorem c_X1_init_231 {ν : Nat → Nat → Option Nat} {μ : Nat → Nat → Int} {Q : xQ} (hF : Fr 232 ν μ) (k : ∀ μ' : Nat → Nat → Int, (chA μ' 231 ∧ μ' 231 13 = 0) → (∀ b, b < 231 → μ' b = μ b) → (∀ b, 232 < b → b ≠ 242 → b ≠ 243 → μ' b = fun _ => 0) → Fr 249 (nuT231 (nuA231 ν)) μ' → Q none (SH.take 249) (nuT231 (nuA231 ν)) μ') : X mX1_init 0 [(0, vR 231), (1, vR 1), (2, vR 207), (3, vR 211), (4, vI 1)] [] (SH.take 232) ν μ 0 0 Q := by
  have e4 : muA231 μ 231 4 = 45 := by unfold muA231; simp (disch := decide) only [up_s, up_a', up_k']
  have e3 : muA231 μ 231 3 = 1 := by unfold muA231; simp (disch := decide) only [up_s, up_a', up_k']
  have e13 : muA231 μ 231 13 = 0 := by unfold muA231; simp (disch := decide) only [up_s, up_a', up_k']
  have hm : ∀ b, b < 231 → muA231 μ b = μ b := fun b hb => by unfold muA231; simp (disch := omega) only [up_o']
  have hz : ∀ b, 232 < b → muA231 μ b = fun _ => 0 := fun b hb => by
    have h0 := (hF b (by omega)).2
    unfold muA231; simp (disch := omega) only [up_o']; exact h0
  have hn : ∀ b, 232 < b → nuA231 ν b = fun _ => none := fun b hb => by
    have h0 := (hF b (by omega)).1
    unfold nuA231; simp (disch := omega) only [upr_o']; exact h0
  refine s_X1_A231 hF ?_
  refine s_X1_L231 (by unfold nuA231; simp (disch := decide) only [upr_s, upr_a', upr_k']) (by unfold nuA231; simp (disch := decide) only [upr_s, upr_a', upr_k']) e4 fun m m1 m2 => ?_
  have f4 : m 231 4 = 45 := by rw [m2 231 (by decide) (by decide)]; exact e4
  refine s_X1_T231 f4 (fun b hb => ⟨hn b (by omega), by rw [m2 b (by omega) (by omega)]; exact hz b (by omega)⟩) ?_
  refine k m ⟨⟨by rw [m2 231 (by decide) (by decide)]; exact e3, f4, fun s hs => m1 s hs⟩, by rw [m2 231 (by decide) (by decide)]; exact e13⟩ (fun b hb => by rw [m2 b (by omega) (by omega)]; exact hm b hb) (fun b b0 b1 b2 => by rw [m2 b b1 b2]; exact hz b b0) (fun b hb => ⟨?_, by rw [m2 b (by omega) (by omega)]; exact hz b (by omega)⟩)
  have h0 := hn b (by omega)
  unfold nuT231; simp (disch := omega) only [upr_o']; exact h0
theorem nuX231_a {ν : Nat → Nat → Option Nat} {b : Nat} (h : b < 231) (j : Nat) : nuT231 (nuA231 ν) b j = ν b j := by unfold nuT231 nuA231; simp (disch := omega) only [upr_a']
def nuW (ν : Nat → Nat → Option Nat) : Nat → Nat → Option Nat := (upr (upr (upr (upr (mnu ν 250 7) 249 2 (some 250)) 249 3 (some 258)) 249 0 (some 1)) 249 1 (some 207))
def muW (μ : Nat → Nat → Int) : Nat → Nat → Int := (up (up (up (up (up (up (up (up μ 249 4 0) 249 5 0) 249 6 0) 249 7 0) 249 8 0) 249 9 0) 249 10 0) 249 11 0)
theorem mnu_o {ν : Nat → Nat → Option Nat} {L N b : Nat} (h : b < L) (j : Nat) : mnu ν L N b j = ν b j := by
  unfold mnu; rw [if_neg (by omega), if_neg (by omega)]
theorem mnu_s {ν : Nat → Nat → Option Nat} {L N j : Nat} (h : j < N) : mnu ν L N L j = some (L + 1 + j) := by
  unfold mnu; rw [if_pos rfl, if_pos h]
theorem mnu_z {ν : Nat → Nat → Option Nat} {L N b : Nat} (h : L < b) : mnu ν L N b = fun _ => none := by
  funext j; unfold mnu; rw [if_neg (by omega), if_pos h]
theorem nuW_a {ν : Nat → Nat → Option Nat} {b : Nat} (h : b < 249) (j : Nat) : nuW ν b j = ν b j := by unfold nuW; simp (disch := omega) only [upr_a', mnu_o]
theorem nuW_z {ν : Nat → Nat → Option Nat} {b : Nat} (h : 250 < b) : nuW ν b = fun _ => none := by unfold nuW; simp (disch := omega) only [upr_o', mnu_z]
theorem muW_o {μ : Nat → Nat → Int} {b : Nat} (h : b ≠ 249) : muW μ b = μ b := by unfold muW; simp (disch := omega) only [up_o']
def NUT9 : List (Nat × Nat × Nat) := [(0, 0, 1), (0, 1, 207), (0, 2, 211), (0, 3, 213), (0, 4, 231), (0, 5, 249), (1, 0, 2), (1, 1, 3), (3, 0, 4), (3, 1, 5), (3, 2, 6), (207, 0, 208), (207, 1, 209), (207, 2, 210), (211, 0, 212), (213, 0, 1), (213, 1, 207), (213, 2, 211), (213, 5, 224), (213, 6, 225), (213, 7, 226), (213, 8, 227), (213, 9, 228), (213, 10, 229), (213, 11, 230), (213, 12, 214), (214, 0, 215), (214, 1, 216), (214, 2, 217), (214, 3, 218), (214, 4, 219), (214, 5, 220), (214, 6, 221), (214, 7, 222), (214, 8, 223), (231, 0, 1), (231, 1, 207), (231, 2, 211), (231, 5, 242), (231, 6, 243), (231, 7, 244), (231, 8, 245), (231, 9, 246), (231, 10, 247), (231, 11, 248), (231, 12, 232), (232, 0, 233), (232, 1, 234), (232, 2, 235), (232, 3, 236), (232, 4, 237), (232, 5, 238), (232, 6, 239), (232, 7, 240), (232, 8, 241), (249, 0, 1), (249, 1, 207), (249, 2, 250), (249, 3, 258), (259, 0, 260), (259, 1, 261), (262, 0, 263), (262, 1, 264), (250, 0, 251), (250, 1, 252), (250, 2, 253), (250, 3, 254), (250, 4, 255), (250, 5, 256), (250, 6, 257)]
def nuE (ν : Nat → Nat → Option Nat) : Nat → Nat → Option Nat := (upr (upr (upr (upr (upr (upr (upr (nuW (upr (nuT231 (nuA231 (upr (nuT213 (nuA213 (upr (upr (upr (upr (upr (upr (upr ν 0 0 (some 1)) 207 0 (some 208)) 207 1 (some 209)) 207 2 (some 210)) 0 1 (some 207)) 211 0 (some 212)) 0 2 (some 211)))) 0 3 (some 213)))) 0 4 (some 231))) 0 5 (some 249)) 259 0 (some 260)) 259 1 (some 261)) 0 6 (some 259)) 262 0 (some 263)) 262 1 (some 264)) 0 7 (some 262))
theorem nuE_9 {ν : Nat → Nat → Option Nat} (h : ptG ν) : ∀ e ∈ NUT9, nuE ν e.1 e.2.1 = some e.2.2 := by
  obtain ⟨⟨g1, g2⟩, g3, g4, g5⟩ := h
  unfold NUT9
  simp only [List.forall_mem_cons]
  refine ⟨?_, ?_, ?_, ?_, ?_, ?_, ?_, ?_, ?_, ?_, ?_, ?_, ?_, ?_, ?_, ?_, ?_, ?_, ?_, ?_, ?_, ?_, ?_, ?_, ?_, ?_, ?_, ?_, ?_, ?_, ?_, ?_, ?_, ?_, ?_, ?_, ?_, ?_, ?_, ?_, ?_, ?_, ?_, ?_, ?_, ?_, ?_, ?_, ?_, ?_, ?_, ?_, ?_, ?_, ?_, ?_, ?_, ?_, ?_, ?_, ?_, ?_, ?_, ?_, ?_, ?_, ?_, ?_, ?_, ?_, fun e he => absurd he (List.not_mem_nil)⟩
  · show nuE ν 0 0 = some 1; unfold nuE nuT213 nuA213 nuT231 nuA231 nuW; simp (disch := decide) only [upr_s, upr_a', upr_k', mnu_o, mnu_s]
  · show nuE ν 0 1 = some 207; unfold nuE nuT213 nuA213 nuT231 nuA231 nuW; simp (disch := decide) only [upr_s, upr_a', upr_k', mnu_o, mnu_s]
  · show nuE ν 0 2 = some 211; unfold nuE nuT213 nuA213 nuT231 nuA231 nuW; simp (disch := decide) only [upr_s, upr_a', upr_k', mnu_o, mnu_s]
  · show nuE ν 0 3 = some 213; unfold nuE nuT213 nuA213 nuT231 nuA231 nuW; simp (disch := decide) only [upr_s, upr_a', upr_k', mnu_o, mnu_s]
  · show nuE ν 0 4 = some 231; unfold nuE nuT213 nuA213 nuT231 nuA231 nuW; simp (disch := decide) only [upr_s, upr_a', upr_k', mnu_o, mnu_s]
  · show nuE ν 0 5 = some 249; unfold nuE nuT213 nuA213 nuT231 nuA231 nuW; simp (disch := decide) only [upr_s, upr_a', upr_k', mnu_o, mnu_s]
  · show nuE ν 1 0 = some 2; unfold nuE nuT213 nuA213 nuT231 nuA231 nuW; simp (disch := decide) only [upr_s, upr_a', upr_k', mnu_o, mnu_s, g1, g2, g3, g4, g5]
  · show nuE ν 1 1 = some 3; unfold nuE nuT213 nuA213 nuT231 nuA231 nuW; simp (disch := decide) only [upr_s, upr_a', upr_k', mnu_o, mnu_s, g1, g2, g3, g4, g5]
  · show nuE ν 3 0 = some 4; unfold nuE nuT213 nuA213 nuT231 nuA231 nuW; simp (disch := decide) only [upr_s, upr_a', upr_k', mnu_o, mnu_s, g1, g2, g3, g4, g5]
  · show nuE ν 3 1 = some 5; unfold nuE nuT213 nuA213 nuT231 nuA231 nuW; simp (disch := decide) only [upr_s, upr_a', upr_k', mnu_o, mnu_s, g1, g2, g3, g4, g5]
  · show nuE ν 3 2 = some 6; unfold nuE nuT213 nuA213 nuT231 nuA231 nuW; simp (disch := decide) only [upr_s, upr_a', upr_k', mnu_o, mnu_s, g1, g2, g3, g4, g5]
  · show nuE ν 207 0 = some 208; unfold nuE nuT213 nuA213 nuT231 nuA231 nuW; simp (disch := decide) only [upr_s, upr_a', upr_k', mnu_o, mnu_s]
  · show nuE ν 207 1 = some 209; unfold nuE nuT213 nuA213 nuT231 nuA231 nuW; simp (disch := decide) only [upr_s, upr_a', upr_k', mnu_o, mnu_s]
  · show nuE ν 207 2 = some 210; unfold nuE nuT213 nuA213 nuT231 nuA231 nuW; simp (disch := decide) only [upr_s, upr_a', upr_k', mnu_o, mnu_s]
  · show nuE ν 211 0 = some 212; unfold nuE nuT213 nuA213 nuT231 nuA231 nuW; simp (disch := decide) only [upr_s, upr_a', upr_k', mnu_o, mnu_s]
  · show nuE ν 213 0 = some 1; unfold nuE nuT213 nuA213 nuT231 nuA231 nuW; simp (disch := decide) only [upr_s, upr_a', upr_k', mnu_o, mnu_s]
  · show nuE ν 213 1 = some 207; unfold nuE nuT213 nuA213 nuT231 nuA231 nuW; simp (disch := decide) only [upr_s, upr_a', upr_k', mnu_o, mnu_s]
  · show nuE ν 213 2 = some 211; unfold nuE nuT213 nuA213 nuT231 nuA231 nuW; simp (disch := decide) only [upr_s, upr_a', upr_k', mnu_o, mnu_s]
  · show nuE ν 213 5 = some 224; unfold nuE nuT213 nuA213 nuT231 nuA231 nuW; simp (disch := decide) only [upr_s, upr_a', upr_k', mnu_o, mnu_s]
  · show nuE ν 213 6 = some 225; unfold nuE nuT213 nuA213 nuT231 nuA231 nuW; simp (disch := decide) only [upr_s, upr_a', upr_k', mnu_o, mnu_s]
  · show nuE ν 213 7 = some 226; unfold nuE nuT213 nuA213 nuT231 nuA231 nuW; simp (disch := decide) only [upr_s, upr_a', upr_k', mnu_o, mnu_s]
  · show nuE ν 213 8 = some 227; unfold nuE nuT213 nuA213 nuT231 nuA231 nuW; simp (disch := decide) only [upr_s, upr_a', upr_k', mnu_o, mnu_s]
  · show nuE ν 213 9 = some 228; unfold nuE nuT213 nuA213 nuT231 nuA231 nuW; simp (disch := decide) only [upr_s, upr_a', upr_k', mnu_o, mnu_s]
  · show nuE ν 213 10 = some 229; unfold nuE nuT213 nuA213 nuT231 nuA231 nuW; simp (disch := decide) only [upr_s, upr_a', upr_k', mnu_o, mnu_s]
  · show nuE ν 213 11 = some 230; unfold nuE nuT213 nuA213 nuT231 nuA231 nuW; simp (disch := decide) only [upr_s, upr_a', upr_k', mnu_o, mnu_s]
  · show nuE ν 213 12 = some 214; unfold nuE nuT213 nuA213 nuT231 nuA231 nuW; simp (disch := decide) only [upr_s, upr_a', upr_k', mnu_o, mnu_s]
  · show nuE ν 214 0 = some 215; unfold nuE nuT213 nuA213 nuT231 nuA231 nuW; simp (disch := decide) only [upr_s, upr_a', upr_k', mnu_o, mnu_s]
  · show nuE ν 214 1 = some 216; unfold nuE nuT213 nuA213 nuT231 nuA231 nuW; simp (disch := decide) only [upr_s, upr_a', upr_k', mnu_o, mnu_s]
  · show nuE ν 214 2 = some 217; unfold nuE nuT213 nuA213 nuT231 nuA231 nuW; simp (disch := decide) only [upr_s, upr_a', upr_k', mnu_o, mnu_s]
  · show nuE ν 214 3 = some 218; unfold nuE nuT213 nuA213 nuT231 nuA231 nuW; simp (disch := decide) only [upr_s, upr_a', upr_k', mnu_o, mnu_s]
  · show nuE ν 214 4 = some 219; unfold nuE nuT213 nuA213 nuT231 nuA231 nuW; simp (disch := decide) only [upr_s, upr_a', upr_k', mnu_o, mnu_s]
  · show nuE ν 214 5 = some 220; unfold nuE nuT213 nuA213 nuT231 nuA231 nuW; simp (disch := decide) only [upr_s, upr_a', upr_k', mnu_o, mnu_s]
  · show nuE ν 214 6 = some 221; unfold nuE nuT213 nuA213 nuT231 nuA231 nuW; simp (disch := decide) only [upr_s, upr_a', upr_k', mnu_o, mnu_s]
  · show nuE ν 214 7 = some 222; unfold nuE nuT213 nuA213 nuT231 nuA231 nuW; simp (disch := decide) only [upr_s, upr_a', upr_k', mnu_o, mnu_s]
  · show nuE ν 214 8 = some 223; unfold nuE nuT213 nuA213 nuT231 nuA231 nuW; simp (disch := decide) only [upr_s, upr_a', upr_k', mnu_o, mnu_s]
  · show nuE ν 231 0 = some 1; unfold nuE nuT213 nuA213 nuT231 nuA231 nuW; simp (disch := decide) only [upr_s, upr_a', upr_k', mnu_o, mnu_s]
  · show nuE ν 231 1 = some 207; unfold nuE nuT213 nuA213 nuT231 nuA231 nuW; simp (disch := decide) only [upr_s, upr_a', upr_k', mnu_o, mnu_s]
  · show nuE ν 231 2 = some 211; unfold nuE nuT213 nuA213 nuT231 nuA231 nuW; simp (disch := decide) only [upr_s, upr_a', upr_k', mnu_o, mnu_s]
  · show nuE ν 231 5 = some 242; unfold nuE nuT213 nuA213 nuT231 nuA231 nuW; simp (disch := decide) only [upr_s, upr_a', upr_k', mnu_o, mnu_s]
  · show nuE ν 231 6 = some 243; unfold nuE nuT213 nuA213 nuT231 nuA231 nuW; simp (disch := decide) only [upr_s, upr_a', upr_k', mnu_o, mnu_s]
  · show nuE ν 231 7 = some 244; unfold nuE nuT213 nuA213 nuT231 nuA231 nuW; simp (disch := decide) only [upr_s, upr_a', upr_k', mnu_o, mnu_s]
  · show nuE ν 231 8 = some 245; unfold nuE nuT213 nuA213 nuT231 nuA231 nuW; simp (disch := decide) only [upr_s, upr_a', upr_k', mnu_o, mnu_s]
  · show nuE ν 231 9 = some 246; unfold nuE nuT213 nuA213 nuT231 nuA231 nuW; simp (disch := decide) only [upr_s, upr_a', upr_k', mnu_o, mnu_s]
  · show nuE ν 231 10 = some 247; unfold nuE nuT213 nuA213 nuT231 nuA231 nuW; simp (disch := decide) only [upr_s, upr_a', upr_k', mnu_o, mnu_s]
  · show nuE ν 231 11 = some 248; unfold nuE nuT213 nuA213 nuT231 nuA231 nuW; simp (disch := decide) only [upr_s, upr_a', upr_k', mnu_o, mnu_s]
  · show nuE ν 231 12 = some 232; unfold nuE nuT213 nuA213 nuT231 nuA231 nuW; simp (disch := decide) only [upr_s, upr_a', upr_k', mnu_o, mnu_s]
  · show nuE ν 232 0 = some 233; unfold nuE nuT213 nuA213 nuT231 nuA231 nuW; simp (disch := decide) only [upr_s, upr_a', upr_k', mnu_o, mnu_s]
  · show nuE ν 232 1 = some 234; unfold nuE nuT213 nuA213 nuT231 nuA231 nuW; simp (disch := decide) only [upr_s, upr_a', upr_k', mnu_o, mnu_s]
  · show nuE ν 232 2 = some 235; unfold nuE nuT213 nuA213 nuT231 nuA231 nuW; simp (disch := decide) only [upr_s, upr_a', upr_k', mnu_o, mnu_s]
  · show nuE ν 232 3 = some 236; unfold nuE nuT213 nuA213 nuT231 nuA231 nuW; simp (disch := decide) only [upr_s, upr_a', upr_k', mnu_o, mnu_s]
  · show nuE ν 232 4 = some 237; unfold nuE nuT213 nuA213 nuT231 nuA231 nuW; simp (disch := decide) only [upr_s, upr_a', upr_k', mnu_o, mnu_s]
  · show nuE ν 232 5 = some 238; unfold nuE nuT213 nuA213 nuT231 nuA231 nuW; simp (disch := decide) only [upr_s, upr_a', upr_k', mnu_o, mnu_s]
  · show nuE ν 232 6 = some 239; unfold nuE nuT213 nuA213 nuT231 nuA231 nuW; simp (disch := decide) only [upr_s, upr_a', upr_k', mnu_o, mnu_s]
  · show nuE ν 232 7 = some 240; unfold nuE nuT213 nuA213 nuT231 nuA231 nuW; simp (disch := decide) only [upr_s, upr_a', upr_k', mnu_o, mnu_s]
  · show nuE ν 232 8 = some 241; unfold nuE nuT213 nuA213 nuT231 nuA231 nuW; simp (disch := decide) only [upr_s, upr_a', upr_k', mnu_o, mnu_s]
  · show nuE ν 249 0 = some 1; unfold nuE nuT213 nuA213 nuT231 nuA231 nuW; simp (disch := decide) only [upr_s, upr_a', upr_k', mnu_o, mnu_s]
  · show nuE ν 249 1 = some 207; unfold nuE nuT213 nuA213 nuT231 nuA231 nuW; simp (disch := decide) only [upr_s, upr_a', upr_k', mnu_o, mnu_s]
  · show nuE ν 249 2 = some 250; unfold nuE nuT213 nuA213 nuT231 nuA231 nuW; simp (disch := decide) only [upr_s, upr_a', upr_k', mnu_o, mnu_s]
  · show nuE ν 249 3 = some 258; unfold nuE nuT213 nuA213 nuT231 nuA231 nuW; simp (disch := decide) only [upr_s, upr_a', upr_k', mnu_o, mnu_s]
  · show nuE ν 259 0 = some 260; unfold nuE nuT213 nuA213 nuT231 nuA231 nuW; simp (disch := decide) only [upr_s, upr_a', upr_k', mnu_o, mnu_s]
  · show nuE ν 259 1 = some 261; unfold nuE nuT213 nuA213 nuT231 nuA231 nuW; simp (disch := decide) only [upr_s, upr_a', upr_k', mnu_o, mnu_s]
  · show nuE ν 262 0 = some 263; unfold nuE nuT213 nuA213 nuT231 nuA231 nuW; simp (disch := decide) only [upr_s, upr_a', upr_k', mnu_o, mnu_s]
  · show nuE ν 262 1 = some 264; unfold nuE nuT213 nuA213 nuT231 nuA231 nuW; simp (disch := decide) only [upr_s, upr_a', upr_k', mnu_o, mnu_s]
  · show nuE ν 250 0 = some 251; unfold nuE nuT213 nuA213 nuT231 nuA231 nuW; simp (disch := decide) only [upr_s, upr_a', upr_k', mnu_o, mnu_s]
  · show nuE ν 250 1 = some 252; unfold nuE nuT213 nuA213 nuT231 nuA231 nuW; simp (disch := decide) only [upr_s, upr_a', upr_k', mnu_o, mnu_s]
  · show nuE ν 250 2 = some 253; unfold nuE nuT213 nuA213 nuT231 nuA231 nuW; simp (disch := decide) only [upr_s, upr_a', upr_k', mnu_o, mnu_s]
  · show nuE ν 250 3 = some 254; unfold nuE nuT213 nuA213 nuT231 nuA231 nuW; simp (disch := decide) only [upr_s, upr_a', upr_k', mnu_o, mnu_s]
  · show nuE ν 250 4 = some 255; unfold nuE nuT213 nuA213 nuT231 nuA231 nuW; simp (disch := decide) only [upr_s, upr_a', upr_k', mnu_o, mnu_s]
  · show nuE ν 250 5 = some 256; unfold nuE nuT213 nuA213 nuT231 nuA231 nuW; simp (disch := decide) only [upr_s, upr_a', upr_k', mnu_o, mnu_s]
  · show nuE ν 250 6 = some 257; unfold nuE nuT213 nuA213 nuT231 nuA231 nuW; simp (disch := decide) only [upr_s, upr_a', upr_k', mnu_o, mnu_s]
theorem nuE_a {ν : Nat → Nat → Option Nat} {b : Nat} (h0 : 0 < b) (h : b < 207) (j : Nat) : nuE ν b j = ν b j := by unfold nuE nuT213 nuA213 nuT231 nuA231 nuW; simp (disch := omega) only [upr_a', mnu_o]
theorem nuE_z {ν : Nat → Nat → Option Nat} {b : Nat} (h : 265 ≤ b) : nuE ν b = fun _ => none := by unfold nuE; simp (disch := omega) only [upr_o', nuW_z]
theorem nuE_6 {ν : Nat → Nat → Option Nat} : nuE ν 0 6 = some 259 ∧ nuE ν 0 7 = some 262 := by unfold nuE; simp (disch := decide) only [upr_s, upr_a', upr_k']; exact ⟨trivial, trivial⟩
theorem c_X9_init {ν : Nat → Nat → Option Nat} {μ : Nat → Nat → Int} {Q : xQ} (hF : Fr 1 ν μ) (k : ∀ ν1 μ1 μ2 μ3, Fr 207 ν1 μ1 → ptG ν1 → ptR ν1 40 → zG μ1 → (chA μ2 213 ∧ μ2 213 13 = 0) → (∀ b, b < 213 → μ2 b = (up (up (up μ1 207 3 0) 211 1 1) 211 2 1) b) → (∀ b, 214 < b → b ≠ 224 → b ≠ 225 → μ2 b = fun _ => 0) → (chA μ3 231 ∧ μ3 231 13 = 0) → (∀ b, b < 231 → μ3 b = μ2 b) → (∀ b, 232 < b → b ≠ 242 → b ≠ 243 → μ3 b = fun _ => 0) → Q none (SH.take 265) (nuE ν1) (up (up (up (up (up (up (up (up (up (muW μ3) 259 2 0) 259 3 0) 259 4 0) 259 5 0) 262 2 0) 262 3 0) 262 4 0) 262 5 0) 0 8 0)) : X mX9_init 0 [(0, vR 0)] [] (SH.take 1) ν μ 0 0 Q := by
  refine X.aload_n (pc := 0) (i := 0) 0 dX9_init_0 rfl rfl ?_
  refine X.objInit (pc := 1) dX9_init_1 lk_X9_3 w_oi w_oc (by decide) (Nat.le_of_ble_eq_true rfl) ?_
  refine X.aload_n (pc := 4) (i := 0) 0 dX9_init_4 rfl rfl ?_
  refine T.new (pc := 5) (ci := 3) (K := 1) (K' := 2) (k' := 1) (n' := 3) dX9_init_5 nl_X9_9 rfl hF rfl rfl rfl (Nat.le_of_ble_eq_true rfl) (Nat.le_of_ble_eq_true rfl) ?_
  refine X.dup (pc := 8) dX9_init_8 rfl ?_
  refine X.callI (pc := 9) (vs := []) (st := [vR 1, vR 0]) dX9_init_9 rfl okM_X3_init rfl lk_X9_11 inst_X3_init rfl rfl ⟨⟨by decide, by decide⟩, ⟨by decide, by decide⟩, Nat.le_of_ble_eq_true rfl⟩ (Nat.le_of_ble_eq_true rfl) ?_
  refine c_X3_init (Fr_m (K' := 2) (by omega) hF) fun ν1 μ1 f1 f2 f3 f4 f5 f6 => ?_
  refine X.nrm (pc' := 12) (ls' := [(0, vR 0)]) (st' := [vR 1, vR 0]) (k' := 206) (n' := 1387) rfl rfl rfl rfl rfl ?_
  refine X.putR (pc := 12) dX9_init_12 fl_X9_12 rfl (fun _ => ⟨rfl, rfl⟩) (shT (by decide) rfl) ?_
  refine X.aload_n (pc := 15) (i := 0) 0 dX9_init_15 rfl rfl ?_
  refine T.new (pc := 16) (ci := 5) (K := 207) (K' := 208) (k' := 207) (n' := 1391) dX9_init_16 nl_X9_16 rfl (Fr_r (by omega) f1) rfl rfl rfl (Nat.le_of_ble_eq_true rfl) (Nat.le_of_ble_eq_true rfl) ?_
  refine X.dup (pc := 19) dX9_init_19 rfl ?_
  refine X.callIN (pc := 20) (vs := []) (st := [vR 207, vR 0]) dX9_init_20 rfl okM_X5_init rfl nk_X9_18 inst_X5_init rfl rfl ⟨⟨by decide, by decide⟩, ⟨by decide, by decide⟩, Nat.le_of_ble_eq_true rfl⟩ (Nat.le_of_ble_eq_true rfl) ?_
  refine c_X5_init (a := 207) (K := 208) rfl (by omega) rfl rfl rfl (Fr_m (K' := 208) (by omega) (Fr_r (by omega) f1)) ?_
  refine X.nrm (pc' := 23) (ls' := [(0, vR 0)]) (st' := [vR 207, vR 0]) (k' := 210) (n' := 1451) rfl rfl rfl rfl rfl ?_
  refine X.putR (pc := 23) dX9_init_23 fl_X9_19 rfl (fun _ => ⟨rfl, rfl⟩) (shT (by decide) rfl) ?_
  refine X.aload_n (pc := 26) (i := 0) 0 dX9_init_26 rfl rfl ?_
  refine T.new (pc := 27) (ci := 0) (K := 211) (K' := 212) (k' := 211) (n' := 1454) dX9_init_27 nl_X9_23 rfl (Fr_r (by omega) (Fr_i (by omega) (Fr_r (by omega) (Fr_r (by omega) (Fr_r (by omega) (Fr_m (K' := 211) (by omega) (Fr_m (K' := 208) (by omega) (Fr_r (by omega) f1)))))))) rfl rfl rfl (Nat.le_of_ble_eq_true rfl) (Nat.le_of_ble_eq_true rfl) ?_
  refine X.dup (pc := 30) dX9_init_30 rfl ?_
  refine X.callIN (pc := 31) (vs := []) (st := [vR 211, vR 0]) dX9_init_31 rfl okM_X0_init rfl nk_X9_25 inst_X0_init rfl rfl ⟨⟨by decide, by decide⟩, ⟨by decide, by decide⟩, Nat.le_of_ble_eq_true rfl⟩ (Nat.le_of_ble_eq_true rfl) ?_
  refine c_X0_init (a := 211) (K := 212) rfl (by omega) rfl (Fr_m (K' := 212) (by omega) (Fr_r (by omega) (Fr_i (by omega) (Fr_r (by omega) (Fr_r (by omega) (Fr_r (by omega) (Fr_m (K' := 211) (by omega) (Fr_m (K' := 208) (by omega) (Fr_r (by omega) f1))))))))) ?_
  refine X.nrm (pc' := 34) (ls' := [(0, vR 0)]) (st' := [vR 211, vR 0]) (k' := 212) (n' := 1535) rfl rfl rfl rfl rfl ?_
  refine X.putR (pc := 34) dX9_init_34 fl_X9_26 rfl (fun _ => ⟨rfl, rfl⟩) (shT (by decide) rfl) ?_
  refine X.aload_n (pc := 37) (i := 0) 0 dX9_init_37 rfl rfl ?_
  refine T.new (pc := 38) (ci := 1) (K := 213) (K' := 214) (k' := 213) (n' := 1549) dX9_init_38 nl_X9_30 rfl (Fr_r (by omega) (Fr_i (by omega) (Fr_i (by omega) (Fr_r (by omega) (Fr_m (K' := 213) (by omega) (Fr_m (K' := 212) (by omega) (Fr_r (by omega) (Fr_i (by omega) (Fr_r (by omega) (Fr_r (by omega) (Fr_r (by omega) (Fr_m (K' := 211) (by omega) (Fr_m (K' := 208) (by omega) (Fr_r (by omega) f1)))))))))))))) rfl rfl rfl (Nat.le_of_ble_eq_true rfl) (Nat.le_of_ble_eq_true rfl) ?_
  refine X.dup (pc := 41) dX9_init_41 rfl ?_
  refine X.aload_n (pc := 42) (i := 0) 0 dX9_init_42 rfl rfl ?_
  refine X.getR (pc := 43) (b := 1) dX9_init_43 fl_X9_12 rfl (shT (by decide) rfl) (by simp (disch := decide) only [upr_s, upr_a', upr_k', nuX213_a, nuX231_a, nuW_a]) ?_
  refine X.aload_n (pc := 46) (i := 0) 0 dX9_init_46 rfl rfl ?_
  refine X.getR (pc := 47) (b := 207) dX9_init_47 fl_X9_19 rfl (shT (by decide) rfl) (by simp (disch := decide) only [upr_s, upr_a', upr_k', nuX213_a, nuX231_a, nuW_a]) ?_
  refine X.aload_n (pc := 50) (i := 0) 0 dX9_init_50 rfl rfl ?_
  refine X.getR (pc := 51) (b := 211) dX9_init_51 fl_X9_26 rfl (shT (by decide) rfl) (by simp (disch := decide) only [upr_s, upr_a', upr_k', nuX213_a, nuX231_a, nuW_a]) ?_
  refine X.iconst (pc := 54) dX9_init_54 ⟨by decide, by decide⟩ ?_
  refine X.callI (pc := 55) (vs := [vR 1, vR 207, vR 211, vI 0]) (st := [vR 213, vR 0]) dX9_init_55 rfl okM_X1_init rfl lk_X9_32 inst_X1_init rfl rfl ⟨⟨by decide, by decide⟩, ⟨by decide, by decide⟩, Nat.le_of_ble_eq_true rfl⟩ (Nat.le_of_ble_eq_true rfl) ?_
  refine c_X1_init_213 (Fr_m (K' := 214) (by omega) (Fr_r (by omega) (Fr_i (by omega) (Fr_i (by omega) (Fr_r (by omega) (Fr_m (K' := 213) (by omega) (Fr_m (K' := 212) (by omega) (Fr_r (by omega) (Fr_i (by omega) (Fr_r (by omega) (Fr_r (by omega) (Fr_r (by omega) (Fr_m (K' := 211) (by omega) (Fr_m (K' := 208) (by omega) (Fr_r (by omega) f1))))))))))))))) fun μ2 w21 w22 w23 w24 => ?_
  refine X.nrm (pc' := 58) (ls' := [(0, vR 0)]) (st' := [vR 213, vR 0]) (k' := 230) (n' := 54500) rfl rfl rfl rfl rfl ?_
  refine X.putR (pc := 58) dX9_init_58 fl_X9_35 rfl (fun _ => ⟨rfl, rfl⟩) (shT (by decide) rfl) ?_
  refine X.aload_n (pc := 61) (i := 0) 0 dX9_init_61 rfl rfl ?_
  refine T.new (pc := 62) (ci := 1) (K := 231) (K' := 232) (k' := 231) (n' := 54514) dX9_init_62 nl_X9_30 rfl (Fr_r (by omega) w24) rfl rfl rfl (Nat.le_of_ble_eq_true rfl) (Nat.le_of_ble_eq_true rfl) ?_
  refine X.dup (pc := 65) dX9_init_65 rfl ?_
  refine X.aload_n (pc := 66) (i := 0) 0 dX9_init_66 rfl rfl ?_
  refine X.getR (pc := 67) (b := 1) dX9_init_67 fl_X9_12 rfl (shT (by decide) rfl) (by simp (disch := decide) only [upr_s, upr_a', upr_k', nuX213_a, nuX231_a, nuW_a]) ?_
  refine X.aload_n (pc := 70) (i := 0) 0 dX9_init_70 rfl rfl ?_
  refine X.getR (pc := 71) (b := 207) dX9_init_71 fl_X9_19 rfl (shT (by decide) rfl) (by simp (disch := decide) only [upr_s, upr_a', upr_k', nuX213_a, nuX231_a, nuW_a]) ?_
  refine X.aload_n (pc := 74) (i := 0) 0 dX9_init_74 rfl rfl ?_
  refine X.getR (pc := 75) (b := 211) dX9_init_75 fl_X9_26 rfl (shT (by decide) rfl) (by simp (disch := decide) only [upr_s, upr_a', upr_k', nuX213_a, nuX231_a, nuW_a]) ?_
  refine X.iconst (pc := 78) dX9_init_78 ⟨by decide, by decide⟩ ?_
  refine X.callI (pc := 79) (vs := [vR 1, vR 207, vR 211, vI 1]) (st := [vR 231, vR 0]) dX9_init_79 rfl okM_X1_init rfl lk_X9_32 inst_X1_init rfl rfl ⟨⟨by decide, by decide⟩, ⟨by decide, by decide⟩, Nat.le_of_ble_eq_true rfl⟩ (Nat.le_of_ble_eq_true rfl) ?_
  refine c_X1_init_231 (Fr_m (K' := 232) (by omega) (Fr_r (by omega) w24)) fun μ3 w31 w32 w33 w34 => ?_
  refine X.nrm (pc' := 82) (ls' := [(0, vR 0)]) (st' := [vR 231, vR 0]) (k' := 248) (n' := 107465) rfl rfl rfl rfl rfl ?_
  refine X.putR (pc := 82) dX9_init_82 fl_X9_39 rfl (fun _ => ⟨rfl, rfl⟩) (shT (by decide) rfl) ?_
  refine X.aload_n (pc := 85) (i := 0) 0 dX9_init_85 rfl rfl ?_
  refine T.new (pc := 86) (ci := 8) (K := 249) (K' := 250) (k' := 249) (n' := 107477) dX9_init_86 nl_X9_42 rfl (Fr_r (by omega) w34) rfl rfl rfl (Nat.le_of_ble_eq_true rfl) (Nat.le_of_ble_eq_true rfl) ?_
  refine X.dup (pc := 89) dX9_init_89 rfl ?_
  refine X.aload_n (pc := 90) (i := 0) 0 dX9_init_90 rfl rfl ?_
  refine X.getR (pc := 91) (b := 1) dX9_init_91 fl_X9_12 rfl (shT (by decide) rfl) (by simp (disch := decide) only [upr_s, upr_a', upr_k', nuX213_a, nuX231_a, nuW_a]) ?_
  refine X.aload_n (pc := 94) (i := 0) 0 dX9_init_94 rfl rfl ?_
  refine X.getR (pc := 95) (b := 207) dX9_init_95 fl_X9_19 rfl (shT (by decide) rfl) (by simp (disch := decide) only [upr_s, upr_a', upr_k', nuX213_a, nuX231_a, nuW_a]) ?_
  refine X.callI (pc := 98) (vs := [vR 1, vR 207]) (st := [vR 249, vR 0]) dX9_init_98 rfl okM_X8_init rfl lk_X9_44 inst_X8_init rfl rfl ⟨⟨by decide, by decide⟩, ⟨by decide, by decide⟩, Nat.le_of_ble_eq_true rfl⟩ (Nat.le_of_ble_eq_true rfl) ?_
  refine c_X8_init (Fr_m (K' := 250) (by omega) (Fr_r (by omega) w34)) ?_
  have FRW : Fr 259 (nuW (upr (nuT231 (nuA231 (upr (nuT213 (nuA213 (upr (upr (upr (upr (upr (upr (upr ν1 0 0 (some 1)) 207 0 (some 208)) 207 1 (some 209)) 207 2 (some 210)) 0 1 (some 207)) 211 0 (some 212)) 0 2 (some 211)))) 0 3 (some 213)))) 0 4 (some 231))) (muW μ3) := fun b hb => ⟨nuW_z (by omega), by rw [muW_o (by omega)]; exact w33 b (by omega) (by omega) (by omega)⟩
  refine X.nrm (pc' := 101) (ls' := [(0, vR 0)]) (st' := [vR 249, vR 0]) (k' := 258) (n' := 110324) rfl rfl rfl rfl rfl ?_
  refine X.putR (pc := 101) dX9_init_101 fl_X9_47 rfl (fun _ => ⟨rfl, rfl⟩) (shT (by decide) rfl) ?_
  refine X.aload_n (pc := 104) (i := 0) 0 dX9_init_104 rfl rfl ?_
  refine T.new (pc := 105) (ci := 2) (K := 259) (K' := 260) (k' := 259) (n' := 110330) dX9_init_105 nl_X9_51 rfl (Fr_r (by omega) FRW) rfl rfl rfl (Nat.le_of_ble_eq_true rfl) (Nat.le_of_ble_eq_true rfl) ?_
  refine X.dup (pc := 108) dX9_init_108 rfl ?_
  refine X.callIN (pc := 109) (vs := []) (st := [vR 259, vR 0]) dX9_init_109 rfl okM_X2_init rfl nk_X9_53 inst_X2_init rfl rfl ⟨⟨by decide, by decide⟩, ⟨by decide, by decide⟩, Nat.le_of_ble_eq_true rfl⟩ (Nat.le_of_ble_eq_true rfl) ?_
  refine c_X2_init (a := 259) (K := 260) rfl (by omega) rfl rfl (Fr_m (K' := 260) (by omega) (Fr_r (by omega) FRW)) ?_
  refine X.nrm (pc' := 112) (ls' := [(0, vR 0)]) (st' := [vR 259, vR 0]) (k' := 261) (n' := 118730) rfl rfl rfl rfl rfl ?_
  refine X.putR (pc := 112) dX9_init_112 fl_X9_54 rfl (fun h9 => by cases h9) (shT (by decide) rfl) ?_
  refine X.aload_n (pc := 115) (i := 0) 0 dX9_init_115 rfl rfl ?_
  refine T.new (pc := 116) (ci := 2) (K := 262) (K' := 263) (k' := 262) (n' := 118736) dX9_init_116 nl_X9_51 rfl (Fr_r (by omega) (Fr_i (by omega) (Fr_i (by omega) (Fr_i (by omega) (Fr_i (by omega) (Fr_r (by omega) (Fr_r (by omega) (Fr_m (K' := 262) (by omega) (Fr_m (K' := 260) (by omega) (Fr_r (by omega) FRW)))))))))) rfl rfl rfl (Nat.le_of_ble_eq_true rfl) (Nat.le_of_ble_eq_true rfl) ?_
  refine X.dup (pc := 119) dX9_init_119 rfl ?_
  refine X.callIN (pc := 120) (vs := []) (st := [vR 262, vR 0]) dX9_init_120 rfl okM_X2_init rfl nk_X9_53 inst_X2_init rfl rfl ⟨⟨by decide, by decide⟩, ⟨by decide, by decide⟩, Nat.le_of_ble_eq_true rfl⟩ (Nat.le_of_ble_eq_true rfl) ?_
  refine c_X2_init (a := 262) (K := 263) rfl (by omega) rfl rfl (Fr_m (K' := 263) (by omega) (Fr_r (by omega) (Fr_i (by omega) (Fr_i (by omega) (Fr_i (by omega) (Fr_i (by omega) (Fr_r (by omega) (Fr_r (by omega) (Fr_m (K' := 262) (by omega) (Fr_m (K' := 260) (by omega) (Fr_r (by omega) FRW))))))))))) ?_
  refine X.nrm (pc' := 123) (ls' := [(0, vR 0)]) (st' := [vR 262, vR 0]) (k' := 264) (n' := 127136) rfl rfl rfl rfl rfl ?_
  refine X.putR (pc := 123) dX9_init_123 fl_X9_58 rfl (fun h9 => by cases h9) (shT (by decide) rfl) ?_
  refine X.aload_n (pc := 126) (i := 0) 0 dX9_init_126 rfl rfl ?_
  refine X.iconst (pc := 127) dX9_init_127 ⟨by decide, by decide⟩ ?_
  refine X.putI (pc := 128) dX9_init_128 fl_X9_61 rfl (fun h9 => by cases h9) (shT (by decide) rfl) (Or.inl rfl) ?_
  exact X.vret (pc := 131) dX9_init_131 rfl (Nat.le_of_ble_eq_true rfl) (Nat.le_of_ble_eq_true rfl) (k ν1 μ1 μ2 μ3 f1 f2 f3 f4 w21 w22 w23 w31 w32 w33)
