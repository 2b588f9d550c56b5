/-! a part of the board has one letter -/
def allL (lt : Nat → Int) (x y w h : Nat) (l : Int) : Prop := ∀ i j, i < w → j < h → lt (9 * (y + j) + (x + i)) = l
theorem cI_ne {p : Prop} : (cI p (1 : Int) 0) ≠ 0 ↔ p := by
  by_cases q : p
  · rw [cI_t q]; exact ⟨fun _ => q, fun _ => by decide⟩
  · rw [cI_f q]; exact ⟨fun z => absurd rfl z, fun z => absurd z q⟩
theorem cI_iff {p q : Prop} (h : p ↔ q) : cI p (1 : Int) 0 = cI q 1 0 := by
  by_cases z : p
  · rw [cI_t z, cI_t (h.1 z)]
  · rw [cI_f z, cI_f fun y => z (h.2 y)]
theorem al_ar {x y w h i j : Nat} (hx : x + w ≤ 9) (hy : y + h ≤ 9) (hi : i < w) (hj : j < h) : w32 (w32 (9 * ((y + j : Nat) : Int)) + ((x + i : Nat) : Int)) = ((9 * (y + j) + (x + i) : Nat) : Int) ∧ 9 * (y + j) + (x + i) < 81 := by
  refine ⟨?_, by omega⟩
  rw [w32_id (x := 9 * ((y + j : Nat) : Int)) (by omega) (by omega), w32_id (by omega) (by omega)]; omega
section IA
variable {sh : List (Nat × Nat)} {ν : Nat → Nat → Option Nat} {μ : Nat → Nat → Int} {f s : Nat} {Q : xQ}
theorem c_X10_isAll (hW : WF sh ν f s) {lt : Nat → Int} {x y w h : Nat} {l : Int} (hx : x + w ≤ 9) (hy : y + h ≤ 9) (hB : ∀ p, p < 81 → μ 292 p = lt p)
    (k : ∀ v : Int, (v ≠ 0 ↔ allL lt x y w h l) → Q (some (vI v)) sh ν μ) : X mX10_isAll 0 [(0, vR 265), (1, vI (x : Nat)), (2, vI (y : Nat)), (3, vI (w : Nat)), (4, vI (h : Nat)), (5, vI l)] [] sh ν μ 0 0 Q := by
  have eyh : w32 ((y : Int) + (h : Int)) = ((y + h : Nat) : Int) := by rw [w32_id (by omega) (by omega)]; omega
  have exw : w32 ((x : Int) + (w : Int)) = ((x + w : Nat) : Int) := by rw [w32_id (by omega) (by omega)]; omega
  refine g_X10_isAll_0 hW ?_
  have key := loop_up h (fun (j : Nat) (m : Nat → Nat → Int) => m = μ) (fun j m => X mX10_isAll 6 [(0, vR 265), (1, vI (x : Nat)), (2, vI (y : Nat)), (3, vI (w : Nat)), (4, vI (h : Nat)), (5, vI l), (6, vI (cI (allL lt x y w j l) 1 0)), (7, vI ((y + j : Nat) : Int))] [] sh ν m 0 0 Q) ?_ ?_ 0 μ (Nat.zero_le _) rfl
  · rw [cI_t (show allL lt x y w 0 l from fun i j _ hj => absurd hj (Nat.not_lt_zero j))] at key
    exact key
  · rintro m hm
    rw [hm]
    refine g_X10_isAll_6 hW ?_
    rw [eyh]
    refine ⟨fun _ => ⟨?_, k _ cI_ne⟩, fun q => absurd q (by omega)⟩
    by_cases q : allL lt x y w h l
    · rw [cI_t q]; exact Or.inr rfl
    · rw [cI_f q]; exact Or.inl rfl
  · rintro j m hj hm ih
    rw [hm]
    refine g_X10_isAll_6 hW ?_
    rw [eyh]
    refine ⟨fun q => absurd q (by omega), fun _ => ?_⟩
    by_cases qj : allL lt x y w j l
    · rw [cI_t qj]
      refine ⟨fun q => absurd q (by decide), fun _ => ?_⟩
      have h67 : ∀ v : Int, v = cI (allL lt x y w (j + 1) l) 1 0 → X mX10_isAll 67 [(0, vR 265), (1, vI (x : Nat)), (2, vI (y : Nat)), (3, vI (w : Nat)), (4, vI (h : Nat)), (5, vI l), (6, vI v), (7, vI ((y + j : Nat) : Int))] [] sh ν μ 0 0 Q := by
        rintro _ rfl
        refine g_X10_isAll_67 hW ?_
        rw [wi1 (by omega)]
        exact ih μ rfl
      have key2 := loop_up w (fun (i : Nat) (m : Nat → Nat → Int) => m = μ) (fun i m => X mX10_isAll 23 [(0, vR 265), (1, vI (x : Nat)), (2, vI (y : Nat)), (3, vI (w : Nat)), (4, vI (h : Nat)), (5, vI l), (6, vI (cI (∀ i', i' < i → lt (9 * (y + j) + (x + i')) = l) 1 0)), (7, vI ((y + j : Nat) : Int)), (8, vI ((x + i : Nat) : Int))] [] sh ν m 0 0 Q) ?_ ?_ 0 μ (Nat.zero_le _) rfl
      · rw [cI_t (show ∀ i', i' < 0 → lt (9 * (y + j) + (x + i')) = l from fun i' hi => absurd hi (Nat.not_lt_zero i'))] at key2
        exact key2
      · rintro m2 hm2
        rw [hm2]
        refine g_X10_isAll_23 hW ?_
        rw [exw]
        refine ⟨fun _ => h67 _ (cI_iff ⟨fun q i j' hi hj' => ?_, fun q i hi => q i j hi (Nat.lt_succ_self j)⟩), fun q => absurd q (by omega)⟩
        by_cases e : j' = j
        · rw [e]; exact q i hi
        · exact qj i j' hi (by omega)
      · rintro i m2 hi hm2 ih2
        rw [hm2]
        obtain ⟨e1, e2⟩ := al_ar hx hy hi hj
        refine g_X10_isAll_23 hW ?_
        rw [exw]
        refine ⟨fun q => absurd q (by omega), fun _ => ?_⟩
        by_cases qi : ∀ i', i' < i → lt (9 * (y + j) + (x + i')) = l
        · rw [cI_t qi]
          have h59 : ∀ v : Int, v = cI (∀ i', i' < i + 1 → lt (9 * (y + j) + (x + i')) = l) 1 0 → X mX10_isAll 59 [(0, vR 265), (1, vI (x : Nat)), (2, vI (y : Nat)), (3, vI (w : Nat)), (4, vI (h : Nat)), (5, vI l), (7, vI ((y + j : Nat) : Int)), (8, vI ((x + i : Nat) : Int))] [vI v] sh ν μ 0 0 Q := by
            rintro _ rfl
            refine g_X10_isAll_59 hW ?_
            rw [wi1 (by omega)]
            exact ih2 μ rfl
          rw [e1, Int.toNat_natCast, hB _ e2]
          refine ⟨fun q => absurd q (by decide), fun _ => ⟨tI e2, fun q => h59 0 (cI_f fun z => q (z i (Nat.lt_succ_self i))).symm, fun q => h59 1 (cI_t fun i' hi' => ?_).symm⟩⟩
          by_cases e : i' = i
          · rw [e]; exact q
          · exact qi i' (by omega)
        · rw [cI_f qi]
          exact ⟨fun _ => h67 0 (cI_f fun z => qi fun i' hi' => z i' j (by omega) (Nat.lt_succ_self j)).symm, fun q => absurd rfl q⟩
    · rw [cI_f qj]
      exact ⟨fun _ => ⟨Or.inl rfl, k 0 ⟨fun z => absurd rfl z, fun z => absurd (fun i j' hi hj' => z i j' hi (by omega)) qj⟩⟩, fun q => absurd rfl q⟩
end IA
