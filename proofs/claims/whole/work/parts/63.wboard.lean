/-! the reference works the board -/
def inB (B : BD) (x y w h : Nat) : Prop := (1 ≤ w ∧ 1 ≤ h) ∧ (x : Int) + w ≤ bw B ∧ (y : Int) + h ≤ bh B
section WB
variable {sh : List (Nat × Nat)} {ν : Nat → Nat → Option Nat} {μ : Nat → Nat → Int} {f s : Nat} {Q : xQ} {nR : Nat} {R : GR} {B : BD}
theorem inB_ok (hB : okB B) {x y w h : Nat} (hi : inB B x y w h) : okCell (eBd B) x y w h := by
  obtain ⟨⟨h1, h2⟩, h3, h4⟩ := hi
  obtain ⟨⟨b1, b2⟩, ⟨b3, b4⟩, -⟩ := hB
  exact ⟨h1, h2, by omega, by omega, fun _ => by omega⟩
theorem c_X10_workBoard (hW : WF sh ν f s) (hG : okG nR R) (HM : IMg μ nR R) (hB : okB B) (HB : IMb μ B) (hbd : tbd μ) (hT : μ 265 50 = 0 ∨ (μ 265 50 ≠ 0 ∧ dnT μ (eBd B) R nR (inB B)))
    (k : ∀ μ' : Nat → Nat → Int, dnT μ' (eBd B) R nR (inB B) → tbd μ' → μ' 265 50 ≠ 0 → μ' 265 42 = 1 → μ' 265 49 = μ 265 49 → frS 0 52488 μ μ' → Q none sh ν μ') : X mX10_workBoard 0 [(0, vR 265)] [] sh ν μ 0 0 Q := by
  obtain ⟨⟨b1, b2⟩, ⟨b3, b4⟩, -⟩ := id hB
  obtain ⟨m1, m2, mLt⟩ := HB
  obtain ⟨W, hWd⟩ : ∃ W : Nat, bw B = W := ⟨Int.toNat (bw B), by omega⟩
  obtain ⟨H, hHd⟩ : ∃ H : Nat, bh B = H := ⟨Int.toNat (bh B), by omega⟩
  refine g_X10_workBoard_0 hW ⟨fun q0 => ?_, fun q0 => ?_⟩
  · have hm0 : frS 0 52488 μ (up (up μ 265 42 1) 265 50 1) := ⟨fun b b0 _ _ => by rw [up_o' b0, up_o' b0], fun j _ _ _ j3 _ j5 => by rw [up_k' j5, up_k' j3], fun j _ => by rw [up_o' (show 293 ≠ 265 by decide), up_o' (show 294 ≠ 265 by decide), up_o' (show 295 ≠ 265 by decide), up_o' (show 296 ≠ 265 by decide), up_o' (show 293 ≠ 265 by decide), up_o' (show 294 ≠ 265 by decide), up_o' (show 295 ≠ 265 by decide), up_o' (show 296 ≠ 265 by decide)]; exact ⟨rfl, rfl, rfl, rfl⟩⟩
    have hb0 : tbd (up (up μ 265 42 1) 265 50 1) := by
      unfold tbd
      rw [up_o' (show 294 ≠ 265 by decide), up_o' (show 295 ≠ 265 by decide), up_o' (show 296 ≠ 265 by decide), up_o' (show 294 ≠ 265 by decide), up_o' (show 295 ≠ 265 by decide), up_o' (show 296 ≠ 265 by decide)]
      exact hbd
    have h42 : up (up μ 265 42 1) 265 50 1 265 42 = 1 := by rw [up_k' (by decide), up_s]
    have h50 : up (up μ 265 42 1) 265 50 1 265 50 ≠ 0 := by rw [up_s]; decide
    have h49 : up (up μ 265 42 1) 265 50 1 265 49 = μ 265 49 := by rw [up_k' (by decide), up_k' (by decide)]
    generalize up (up μ 265 42 1) 265 50 1 = m0 at hm0 hb0 h42 h49 h50
    let K : (Nat → Nat → Int) → Prop := fun m => tbd m ∧ frS 0 52488 μ m ∧ m 265 42 = 1 ∧ m 265 50 ≠ 0 ∧ m 265 49 = μ 265 49
    have e35 : ∀ m, K m → m 265 35 = W := fun m hm => by rw [hm.2.1.2.1 35 (by decide) (by decide) (by decide) (by decide) (by decide) (by decide), m1]; exact hWd
    have e36 : ∀ m, K m → m 265 36 = H := fun m hm => by rw [hm.2.1.2.1 36 (by decide) (by decide) (by decide) (by decide) (by decide) (by decide), m2]; exact hHd
    have key := loop_up (H + 1) (fun (h : Nat) (m : Nat → Nat → Int) => 1 ≤ h ∧ dnT m (eBd B) R nR (fun x' y' w' h' => inB B x' y' w' h' ∧ h' < h) ∧ K m) (fun h m => X mX10_workBoard 20 [(0, vR 265), (1, vI (h : Nat))] [] sh ν m 0 0 Q) ?_ ?_ 1 m0 (by omega) ⟨Nat.le_refl _, fun x' y' w' h' hc => absurd hc.1.1.2 (by have := hc.2; omega), hb0, hm0, h42, h50, h49⟩
    · exact key
    · rintro m ⟨i1, i2, i3⟩
      refine g_X10_workBoard_20 hW ?_
      rw [e36 m i3]
      refine ⟨fun _ => k m (fun x' y' w' h' hc => i2 x' y' w' h' ⟨hc, by have := hc.2.2; omega⟩) i3.1 i3.2.2.2.1 i3.2.2.1 i3.2.2.2.2 i3.2.1, fun q => absurd q (by omega)⟩
    · rintro h m hh ⟨i1, i2, i3⟩ ih
      refine g_X10_workBoard_20 hW ?_
      rw [e36 m i3]
      refine ⟨fun q => absurd q (by omega), fun _ => ?_⟩
      have key2 := loop_up (W + 1) (fun (w : Nat) (m' : Nat → Nat → Int) => 1 ≤ w ∧ dnT m' (eBd B) R nR (fun x' y' w' h' => inB B x' y' w' h' ∧ (h' < h ∨ (h' = h ∧ w' < w))) ∧ K m') (fun w m' => X mX10_workBoard 30 [(0, vR 265), (1, vI (h : Nat)), (2, vI (w : Nat))] [] sh ν m' 0 0 Q) ?_ ?_ 1 m (by omega) ⟨Nat.le_refl _, fun x' y' w' h' hc => i2 x' y' w' h' ⟨hc.1, by have := hc.1.1; have := hc.2; omega⟩, i3⟩
      · exact key2
      · rintro m' ⟨a1, a2, a3⟩
        refine g_X10_workBoard_30 hW ?_
        rw [e35 m' a3]
        refine ⟨fun _ => ?_, fun q => absurd q (by omega)⟩
        rw [wi1 (by omega)]
        exact ih m' ⟨by omega, fun x' y' w' h' hc => a2 x' y' w' h' ⟨hc.1, by have := hc.1.2.1; have := hc.2; omega⟩, a3⟩
      · rintro w m' hw ⟨a1, a2, a3⟩ ih2
        refine g_X10_workBoard_30 hW ?_
        rw [e35 m' a3]
        refine ⟨fun q => absurd q (by omega), fun _ => ?_⟩
        have key3 := loop_up (H + 1 - h) (fun (y : Nat) (m2 : Nat → Nat → Int) => dnT m2 (eBd B) R nR (fun x' y' w' h' => inB B x' y' w' h' ∧ (h' < h ∨ (h' = h ∧ (w' < w ∨ (w' = w ∧ y' < y))))) ∧ K m2) (fun y m2 => X mX10_workBoard 40 [(0, vR 265), (1, vI (h : Nat)), (2, vI (w : Nat)), (3, vI (y : Nat))] [] sh ν m2 0 0 Q) ?_ ?_ 0 m' (Nat.zero_le _) ⟨fun x' y' w' h' hc => a2 x' y' w' h' ⟨hc.1, by have := hc.2; omega⟩, a3⟩
        · exact key3
        · rintro m2 ⟨c1, c2⟩
          refine g_X10_workBoard_40 hW ?_
          rw [e36 m2 c2, w32_id (x := ((H + 1 - h : Nat) : Int) + (h : Int)) (by omega) (by omega)]
          refine ⟨fun _ => ?_, fun q => absurd q (by omega)⟩
          rw [wi1 (by omega)]
          exact ih2 m2 ⟨by omega, fun x' y' w' h' hc => c1 x' y' w' h' ⟨hc.1, by have := hc.1.2.2; have := hc.2; omega⟩, c2⟩
        · rintro y m2 hy ⟨c1, c2⟩ ih3
          refine g_X10_workBoard_40 hW ?_
          rw [e36 m2 c2, w32_id (x := (y : Int) + (h : Int)) (by omega) (by omega)]
          refine ⟨fun q => absurd q (by omega), fun _ => ?_⟩
          have key4 := loop_up (W + 1 - w) (fun (x : Nat) (m3 : Nat → Nat → Int) => dnT m3 (eBd B) R nR (fun x' y' w' h' => inB B x' y' w' h' ∧ (h' < h ∨ (h' = h ∧ (w' < w ∨ (w' = w ∧ (y' < y ∨ (y' = y ∧ x' < x))))))) ∧ K m3) (fun x m3 => X mX10_workBoard 53 [(0, vR 265), (1, vI (h : Nat)), (2, vI (w : Nat)), (3, vI (y : Nat)), (4, vI (x : Nat))] [] sh ν m3 0 0 Q) ?_ ?_ 0 m2 (Nat.zero_le _) ⟨fun x' y' w' h' hc => c1 x' y' w' h' ⟨hc.1, by have := hc.2; omega⟩, c2⟩
          · exact key4
          · rintro m3 ⟨d1, d2⟩
            refine g_X10_workBoard_53 hW ?_
            rw [e35 m3 d2, w32_id (x := ((W + 1 - w : Nat) : Int) + (w : Int)) (by omega) (by omega)]
            refine ⟨fun _ => ?_, fun q => absurd q (by omega)⟩
            rw [wi1 (by omega)]
            exact ih3 m3 ⟨fun x' y' w' h' hc => d1 x' y' w' h' ⟨hc.1, by have := hc.1.2.1; have := hc.2; omega⟩, d2⟩
          · rintro x m3 hx ⟨d1, d2⟩ ih4
            refine g_X10_workBoard_53 hW ?_
            rw [e35 m3 d2, w32_id (x := (x : Int) + (w : Int)) (by omega) (by omega)]
            refine ⟨fun q => absurd q (by omega), fun _ => ?_⟩
            have hib : inB B x y w h := ⟨⟨a1, i1⟩, by omega, by omega⟩
            have hcc := inB_ok hB hib
            refine c_X10_workD hW hG (frS_g d2.2.1 HM) hcc (by rw [d2.2.2.1]; rfl) (fun z p hp => by rw [d2.2.1.1 292 (by decide) (by decide) (by decide)]; exact mLt p hp) d2.1 (fun x' y' w' h' => inB B x' y' w' h' ∧ (h' < h ∨ (h' = h ∧ (w' < w ∨ (w' = w ∧ (y' < y ∨ (y' = y ∧ x' < x))))))) (fun x' y' w' h' => inB B x' y' w' h' ∧ (h' < h ∨ (h' = h ∧ (w' < w ∨ (w' = w ∧ (y' < y ∨ (y' = y ∧ x' < x + 1))))))) d1 (fun _ _ _ _ q => inB_ok hB q.1) (fun x' y' w' h' q => ?_) (fun x' y' w' h' q1 q2 q3 q4 q5 q6 => ⟨⟨⟨q1.1, q1.2.1⟩, by omega, by omega⟩, by omega⟩) fun μ' t1 t2 t3 => ?_
            · by_cases z : h' = h ∧ w' = w ∧ y' = y ∧ x' = x
              · exact Or.inr ⟨z.2.1, z.1, fun _ => ⟨z.2.2.2, z.2.2.1⟩⟩
              · exact Or.inl ⟨q.1, by have := q.2; omega⟩
            · refine g_X10_workBoard_73 hW ?_
              rw [wi1 (by omega)]
              have hs := (plN_side (n := 7) hcc (by decide)).1 rfl
              have hs2 : plN (eBd B) x y w h 7 = plN (eBd B) x y w h 0 + 7 := rfl
              exact ih4 μ' ⟨t1, t2, frS_W d2.2.1 t3 ⟨Nat.zero_le _, by omega⟩, by rw [t3.2.1 42 (by decide) (by decide) (by decide)]; exact d2.2.2.1, by rw [t3.2.1 50 (by decide) (by decide) (by decide)]; exact d2.2.2.2.1, by rw [t3.2.1 49 (by decide) (by decide) (by decide)]; exact d2.2.2.2.2⟩
  · rcases hT with hT | ⟨hT1, hT2⟩
    · exact absurd hT q0
    · refine k _ (fun x y w h hc n hn => ?_) ?_ (by rw [up_k' (by decide)]; exact hT1) (up_s ..) (up_k' (by decide) _) ⟨fun b b0 _ _ => up_o' b0, fun j _ _ _ j3 _ _ => up_k' j3 _, fun j _ => by rw [up_o' (show 293 ≠ 265 by decide), up_o' (show 294 ≠ 265 by decide), up_o' (show 295 ≠ 265 by decide), up_o' (show 296 ≠ 265 by decide)]; exact ⟨rfl, rfl, rfl, rfl⟩⟩
      · unfold enV enB
        rw [up_o' (show 293 ≠ 265 by decide), up_o' (show 294 ≠ 265 by decide), up_o' (show 295 ≠ 265 by decide), up_o' (show 296 ≠ 265 by decide)]
        exact hT2 x y w h hc n hn
      · unfold tbd
        rw [up_o' (show 294 ≠ 265 by decide), up_o' (show 295 ≠ 265 by decide), up_o' (show 296 ≠ 265 by decide)]
        exact hbd
end WB
