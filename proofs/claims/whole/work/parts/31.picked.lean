/-! the reference picks a rule -/
section PK
variable {sh : List (Nat × Nat)} {ν : Nat → Nat → Option Nat} {μ : Nat → Nat → Int} {f s : Nat} {Q : xQ} {n : Nat} {R : GR}
theorem frK_tr {μ1 μ2 μ3 : Nat → Nat → Int} (h1 : frK μ1 μ2) (h2 : frK μ2 μ3) : frK μ1 μ3 := ⟨fun b b0 b1 b2 b3 => (h2.1 b b0 b1 b2 b3).trans (h1.1 b b0 b1 b2 b3), fun j hj => (h2.2 j hj).trans (h1.2 j hj)⟩
theorem IMg_frK {μ' : Nat → Nat → Int} (h : frK μ μ') (H : IMg μ n R) : IMg μ' n R := IMg_congr (h.2 0 (by omega)) (fun b b0 b1 => h.1 b (by omega) (by omega) (by omega) (by omega)) H
theorem c_X10_picked (hW : WF sh ν f s) (hG : okG n R) (H : IMg μ n R) {nm w h key : Int} (hs : isSc w h)
    (k : ∀ μ' : Nat → Nat → Int, frK μ μ' → Q (some (vI (pickF n R nm w h key))) sh ν μ') : X mX10_picked 0 [(0, vR 265), (1, vI nm), (2, vI key), (3, vI w), (4, vI h)] [] sh ν μ 0 0 Q := by
  have h40 := hG.1
  have p2 : ∀ m : Nat → Nat → Int, frK μ m → ∀ idx : Nat, idx < cntF R nm w h n → pickF n R nm w h key = (fitA R nm w h n idx : Nat) → X mX10_picked 85 [(0, vR 265), (1, vI nm), (3, vI w), (4, vI h), (6, vI (idx : Nat)), (7, vI 0)] [] sh ν m 0 0 Q := by
    intro m0 hm0 idx hidx hv
    have hle := cntF_le (R := R) (nm := nm) (w := w) (h := h) n
    have key0 := loop_up n (fun (i : Nat) (m : Nat → Nat → Int) => frK μ m ∧ cntF R nm w h i ≤ idx) (fun i m => X mX10_picked 85 [(0, vR 265), (1, vI nm), (3, vI w), (4, vI h), (6, vI ((idx - cntF R nm w h i : Nat) : Int)), (7, vI (i : Nat))] [] sh ν m 0 0 Q) ?_ ?_ 0 m0 (Nat.zero_le _) ⟨hm0, Nat.zero_le _⟩
    · exact key0
    · rintro m ⟨_, g2⟩
      exact absurd hidx (by omega)
    · rintro i m hi ⟨g1, g2⟩ ih
      have hR := IMg_frK g1 H
      have en : ∀ m' : Nat → Nat → Int, frK μ m' → m' 266 i = rn (R i) := fun m' q => ((IMg_frK q H).2 i hi).1.1
      have h143 : ∀ m' : Nat → Nat → Int, frK μ m' → (fitsP R nm w h i → idx ≠ cntF R nm w h i) → ∀ y : Int, y = ((cI (fitsP R nm w h i) 1 0 : Nat) : Int) → X mX10_picked 143 [(0, vR 265), (1, vI nm), (3, vI w), (4, vI h), (7, vI (i : Nat))] [vI y, vI ((idx - cntF R nm w h i : Nat) : Int)] sh ν m' 0 0 Q := by
        rintro m' t1 t2 _ rfl
        refine g_X10_picked_143 hW ?_
        rw [wi1 (by omega)]
        by_cases q : fitsP R nm w h i
        · have t3 := t2 q
          have e := cntF_t q
          have := ih m' ⟨t1, by omega⟩
          rw [cI_t q]
          rw [show w32 (((idx - cntF R nm w h i : Nat) : Int) - ((1 : Nat) : Int)) = ((idx - cntF R nm w h (i + 1) : Nat) : Int) by rw [w32_id (by omega) (by omega)]; omega]
          exact this
        · have e := cntF_f q
          have := ih m' ⟨t1, by omega⟩
          rw [cI_f q]
          rw [show w32 (((idx - cntF R nm w h i : Nat) : Int) - ((0 : Nat) : Int)) = ((idx - cntF R nm w h (i + 1) : Nat) : Int) by rw [w32_id (by omega) (by omega)]; omega]
          exact this
      have h113 : ∀ m' : Nat → Nat → Int, frK μ m' → (fitsP R nm w h i → idx ≠ cntF R nm w h i) → X mX10_picked 113 [(0, vR 265), (1, vI nm), (3, vI w), (4, vI h), (6, vI ((idx - cntF R nm w h i : Nat) : Int)), (7, vI (i : Nat))] [] sh ν m' 0 0 Q := by
        intro m' t1 t2
        refine g_X10_picked_113 hW ?_
        rw [Int.toNat_natCast, en m' t1]
        refine ⟨by omega, fun q => ?_, fun q => ?_⟩
        · have nf : ¬ fitsP R nm w h i := fun z => q z.1
          exact g_X10_picked_142 hW (h143 m' t1 t2 0 (by rw [cI_f nf]; rfl))
        · refine c_X10_lay hW (by omega) ((IMg_frK t1 H).2 i hi) (hG.2 i hi) hs.1 hs.2 (fun g μ' _ g3 => ?_) (fun g μ' g3 => ?_)
          · refine g_X10_picked_135 hW ⟨fun z => absurd z (by decide), fun _ => h143 μ' (frK_tr t1 g3) t2 1 (by rw [cI_t ⟨q, g⟩]; rfl)⟩
          · have nf : ¬ fitsP R nm w h i := fun z => g z.2
            refine g_X10_picked_135 hW ⟨fun _ => g_X10_picked_142 hW (h143 μ' (frK_tr t1 g3) t2 0 (by rw [cI_f nf]; rfl)), fun z => absurd rfl z⟩
      refine g_X10_picked_85 hW ?_
      rw [Int.toNat_natCast, en m g1]
      refine ⟨by omega, fun q => h113 m g1 fun z => absurd z.1 q, fun q => ?_⟩
      refine c_X10_lay hW (by omega) (hR.2 i hi) (hG.2 i hi) hs.1 hs.2 (fun g μ' _ g3 => ?_) (fun g μ' g3 => ?_)
      · refine g_X10_picked_105 hW ⟨fun z => absurd z (by decide), fun _ => ⟨fun z => ?_, fun z => h113 μ' (frK_tr g1 g3) fun _ => by omega⟩⟩
        have hf : fitsP R nm w h i := ⟨q, g⟩
        have e : idx = cntF R nm w h i := by omega
        have := fitA_at hf hi
        rw [← e] at this
        have kv := k μ' (frK_tr g1 g3)
        rw [hv, this] at kv
        exact kv
      · exact g_X10_picked_105 hW ⟨fun _ => h113 μ' (frK_tr g1 g3) fun z => absurd z.2 g, fun z => absurd rfl z⟩
  refine g_X10_picked_0 hW ?_
  have key0 := loop_up n (fun (i : Nat) (m : Nat → Nat → Int) => frK μ m) (fun i m => X mX10_picked 6 [(0, vR 265), (1, vI nm), (2, vI key), (3, vI w), (4, vI h), (5, vI (cntF R nm w h i : Nat)), (6, vI (i : Nat))] [] sh ν m 0 0 Q) ?_ ?_ 0 μ (Nat.zero_le _) frK_refl
  · exact key0
  · intro m g1
    have hR := IMg_frK g1 H
    refine g_X10_picked_6 hW ?_
    rw [hR.1]
    refine ⟨fun _ => ⟨fun q => ⟨q, ?_⟩, fun q => ?_⟩, fun q => absurd q (by omega)⟩
    · have hc : cntF R nm w h n ≠ 0 := by omega
      have hk := keyF_b key
      have hle := cntF_le (R := R) (nm := nm) (w := w) (h := h) n
      have hm := Int.emod_lt_of_pos (keyF key) (show (0 : Int) < (cntF R nm w h n : Int) by omega)
      have hm0 := Int.emod_nonneg (keyF key) q
      rw [show xand (xshr (w32 (w32 (key * 1103515245) + 12345)) 16) 32767 = keyF key from rfl, Int.tmod_eq_emod_of_nonneg hk.1, w32_id (by omega) (by omega)]
      have hv : pickF n R nm w h key = (fitA R nm w h n (Int.toNat (keyF key % (cntF R nm w h n : Int))) : Nat) := by unfold pickF; exact if_neg hc
      have := p2 m g1 (Int.toNat (keyF key % (cntF R nm w h n : Int))) (by omega) hv
      rw [Int.toNat_of_nonneg hm0] at this
      exact this
    · have hv : pickF n R nm w h key = -9 := by unfold pickF; exact if_pos (by omega)
      have kv := k m g1
      rw [hv] at kv
      exact kv
  · intro i m hi g1 ih
    have hR := IMg_frK g1 H
    have hle := cntF_le (R := R) (nm := nm) (w := w) (h := h) i
    have h45 : ∀ m' : Nat → Nat → Int, frK μ m' → ∀ y : Int, y = ((cI (fitsP R nm w h i) 1 0 : Nat) : Int) → X mX10_picked 45 [(0, vR 265), (1, vI nm), (2, vI key), (3, vI w), (4, vI h), (6, vI (i : Nat))] [vI y, vI (cntF R nm w h i : Nat)] sh ν m' 0 0 Q := by
      rintro m' t1 _ rfl
      refine g_X10_picked_45 hW ?_
      rw [wi1 (by omega)]
      by_cases q : fitsP R nm w h i
      · have := ih m' t1
        rw [cntF_t q] at this
        rw [cI_t q, show w32 ((cntF R nm w h i : Int) + ((1 : Nat) : Int)) = ((cntF R nm w h i + 1 : Nat) : Int) by rw [w32_id (by omega) (by omega)]; omega]
        exact this
      · have := ih m' t1
        rw [cntF_f q] at this
        rw [cI_f q, show w32 ((cntF R nm w h i : Int) + ((0 : Nat) : Int)) = ((cntF R nm w h i : Nat) : Int) by rw [w32_id (by omega) (by omega)]; omega]
        exact this
    refine g_X10_picked_6 hW ?_
    rw [hR.1, Int.toNat_natCast, (hR.2 i hi).1.1]
    refine ⟨fun q => absurd q (by omega), fun _ => ⟨by omega, fun q => ?_, fun q => ?_⟩⟩
    · have nf : ¬ fitsP R nm w h i := fun z => q z.1
      exact g_X10_picked_44 hW (h45 m g1 0 (by rw [cI_f nf]; rfl))
    · refine c_X10_lay hW (by omega) (hR.2 i hi) (hG.2 i hi) hs.1 hs.2 (fun g μ' _ g3 => ?_) (fun g μ' g3 => ?_)
      · exact g_X10_picked_37 hW ⟨fun z => absurd z (by decide), fun _ => h45 μ' (frK_tr g1 g3) 1 (by rw [cI_t ⟨q, g⟩]; rfl)⟩
      · have nf : ¬ fitsP R nm w h i := fun z => g z.2
        exact g_X10_picked_37 hW ⟨fun _ => g_X10_picked_44 hW (h45 μ' (frK_tr g1 g3) 0 (by rw [cI_f nf]; rfl)), fun z => absurd rfl z⟩
end PK
