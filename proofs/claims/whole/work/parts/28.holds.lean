/-! holds, piece, of both -/
noncomputable def cI {α : Type} (p : Prop) (a b : α) : α := @ite α p (Classical.propDecidable p) a b
theorem cI_t {α : Type} {p : Prop} {a b : α} (h : p) : cI p a b = a := @if_pos p (Classical.propDecidable p) h α a b
theorem cI_f {α : Type} {p : Prop} {a b : α} (h : ¬ p) : cI p a b = b := @if_neg p (Classical.propDecidable p) h α a b
def isSc (w h : Int) : Prop := (1 ≤ w ∧ w ≤ 20) ∧ 1 ≤ h ∧ h ≤ 20
noncomputable def ansHolds (n : Nat) (R : GR) (x1 x2 x3 : Int) : Int := cI (0 ≤ x1 ∧ x1 < n) (cI (isSc x2 x3) (cI (holdsF (R (Int.toNat x1)) x2 x3) 1 0) (-2)) (-1)
noncomputable def ansPiece (n : Nat) (R : GR) (x1 x2 x3 x4 x5 : Int) : Int := cI (0 ≤ x1 ∧ x1 < n) (cI (isSc x2 x3) (cI (holdsF (R (Int.toNat x1)) x2 x3) (cI (0 ≤ x4 ∧ x4 < pcN (R (Int.toNat x1)) x2 x3) (cI (x5 = 0) (pcB (R (Int.toNat x1)) x2 x3 (Int.toNat x4)) (pcL (R (Int.toNat x1)) x2 x3 (Int.toNat x4))) (-9)) (-3)) (-2)) (-1)
theorem pcN_20 {d : RD} (ho : okR d) {w h : Int} (hs : isSc w h) : pcN d w h ≤ 20 := by
  unfold pcN
  obtain ⟨o1, o2, o3, o4, o5, o6, o7, o8, o9, o10⟩ := ho
  split
  · omega
  · split
    · omega
    · have op := o10 0 (by omega)
      have bL : 0 ≤ rLn d w h ∧ rLn d w h ≤ 20 := by unfold rLn isSc at *; split <;> omega
      exact (rpN_b ⟨op.2.1, op.2.2.1⟩ bL).2.1
section HO
variable {sh : List (Nat × Nat)} {ν : Nat → Nat → Option Nat} {μ : Nat → Nat → Int} {f s : Nat} {Q : xQ} {n : Nat} {R : GR}
theorem c_X9_holds (hW : WF sh ν f s) (hG : okG n R) (H : IXg μ n R) {x1 x2 x3 : Int} (k : ∀ μ' : Nat → Nat → Int, frL μ μ' → Q (some (vI (ansHolds n R x1 x2 x3))) sh ν μ') : X mX9_holds 0 [(0, vR 0), (1, vI x1), (2, vI x2), (3, vI x3)] [] sh ν μ 0 0 Q := by
  unfold ansHolds at k
  refine g_X9_holds_0 hW ?_
  rw [H.1]
  have h40 := hG.1
  refine ⟨fun h1 => ⟨fun h2 => ⟨by omega, ?_⟩, fun h2 => ?_⟩, fun h1 => ?_⟩
  · rw [cI_t h1, cI_t (show isSc x2 x3 from h2)] at k
    refine c_X5_lay hW ⟨Int.toNat x1, by omega, rfl⟩ (H.2 (Int.toNat x1) (by omega)) (hG.2 (Int.toNat x1) (by omega)) h2.1 h2.2 (fun g μ' _ g2 => ?_) fun g μ' g2 => ?_
    · rw [cI_t g] at k; exact g_X9_holds_42 hW ⟨fun q => absurd q (by decide), fun _ => k μ' g2⟩
    · rw [cI_f g] at k; exact g_X9_holds_42 hW ⟨fun _ => k μ' g2, fun q => absurd rfl q⟩
  · rw [cI_t h1, cI_f (show ¬ isSc x2 x3 from h2)] at k; exact k μ frL_refl
  · rw [cI_f h1] at k; exact k μ frL_refl
theorem c_X9_piece (hW : WF sh ν f s) (hG : okG n R) (H : IXg μ n R) {x1 x2 x3 x4 x5 : Int} (k : ∀ μ' : Nat → Nat → Int, frL μ μ' → Q (some (vI (ansPiece n R x1 x2 x3 x4 x5))) sh ν μ') : X mX9_piece 0 [(0, vR 0), (1, vI x1), (2, vI x2), (3, vI x3), (4, vI x4), (5, vI x5)] [] sh ν μ 0 0 Q := by
  unfold ansPiece at k
  refine g_X9_piece_0 hW ?_
  rw [H.1]
  have h40 := hG.1
  refine ⟨fun h1 => ⟨fun h2 => ⟨by omega, ?_⟩, fun h2 => ?_⟩, fun h1 => ?_⟩
  · rw [cI_t h1, cI_t (show isSc x2 x3 from h2)] at k
    have h20 := pcN_20 (hG.2 (Int.toNat x1) (by omega)) h2
    refine c_X5_lay hW ⟨Int.toNat x1, by omega, rfl⟩ (H.2 (Int.toNat x1) (by omega)) (hG.2 (Int.toNat x1) (by omega)) h2.1 h2.2 (fun g μ' g1 g2 => ?_) fun g μ' g2 => ?_
    · rw [cI_t g] at k
      refine g_X9_piece_42 hW ?_
      rw [g1.1]
      refine ⟨fun _ => ⟨fun q => ?_, fun q => ⟨fun q2 => ?_, fun q2 => ?_⟩⟩, fun q => absurd q (by decide)⟩
      · rw [cI_f (fun z => by omega)] at k; exact k μ' g2
      · obtain ⟨-, gb, gl⟩ := g1.2 (Int.toNat x4) (by omega)
        rw [gb, gl]
        rw [cI_t ⟨q, q2⟩] at k
        refine ⟨fun q3 => ⟨by omega, ?_⟩, fun q3 => ⟨by omega, ?_⟩⟩
        · rw [cI_t q3] at k; exact k μ' g2
        · rw [cI_f q3] at k; exact k μ' g2
      · rw [cI_f (fun z => by omega)] at k; exact k μ' g2
    · rw [cI_f g] at k
      exact g_X9_piece_42 hW ⟨fun q => absurd rfl q, fun _ => k μ' g2⟩
  · rw [cI_t h1, cI_f (show ¬ isSc x2 x3 from h2)] at k; exact k μ frL_refl
  · rw [cI_f h1] at k; exact k μ frL_refl
theorem c_X10_holds (hW : WF sh ν f s) (hG : okG n R) (H : IMg μ n R) {x1 x2 x3 : Int} (k : ∀ μ' : Nat → Nat → Int, frK μ μ' → Q (some (vI (ansHolds n R x1 x2 x3))) sh ν μ') : X mX10_holds 0 [(0, vR 265), (1, vI x1), (2, vI x2), (3, vI x3)] [] sh ν μ 0 0 Q := by
  unfold ansHolds at k
  refine g_X10_holds_0 hW ?_
  rw [H.1]
  have h40 := hG.1
  refine ⟨by omega, fun h1 => ⟨fun h2 => ?_, fun h2 => ⟨fun h3 => ?_, fun h3 => ?_⟩⟩, fun h1 => ?_⟩
  · rw [cI_t h1, cI_f (fun z : isSc x2 x3 => h2 z.1)] at k; exact k μ frK_refl
  · rw [cI_t h1, cI_t (show isSc x2 x3 from ⟨h2, h3⟩)] at k
    obtain ⟨r, rfl⟩ : ∃ r : Nat, x1 = r := ⟨Int.toNat x1, by omega⟩
    refine c_X10_lay hW (by omega) (H.2 r (by omega)) (hG.2 r (by omega)) h2 h3 (fun g μ' _ g2 => ?_) fun g μ' g2 => ?_
    · rw [cI_t (by rw [Int.toNat_natCast]; exact g)] at k; exact g_X10_holds_36 hW ⟨fun q => absurd q (by decide), fun _ => k μ' g2⟩
    · rw [cI_f (by rw [Int.toNat_natCast]; exact g)] at k; exact g_X10_holds_36 hW ⟨fun _ => k μ' g2, fun q => absurd rfl q⟩
  · rw [cI_t h1, cI_f (fun z : isSc x2 x3 => h3 z.2)] at k; exact k μ frK_refl
  · rw [cI_f h1] at k; exact k μ frK_refl
theorem c_X10_piece (hW : WF sh ν f s) (hG : okG n R) (H : IMg μ n R) {x1 x2 x3 x4 x5 : Int} (k : ∀ μ' : Nat → Nat → Int, frK μ μ' → Q (some (vI (ansPiece n R x1 x2 x3 x4 x5))) sh ν μ') : X mX10_piece 0 [(0, vR 265), (1, vI x1), (2, vI x2), (3, vI x3), (4, vI x4), (5, vI x5)] [] sh ν μ 0 0 Q := by
  unfold ansPiece at k
  refine g_X10_piece_0 hW ?_
  rw [H.1]
  have h40 := hG.1
  refine ⟨by omega, fun h1 => ⟨fun h2 => ?_, fun h2 => ⟨fun h3 => ?_, fun h3 => ?_⟩⟩, fun h1 => ?_⟩
  · rw [cI_t h1, cI_f (fun z : isSc x2 x3 => h2 z.1)] at k; exact k μ frK_refl
  · rw [cI_t h1, cI_t (show isSc x2 x3 from ⟨h2, h3⟩)] at k
    obtain ⟨r, rfl⟩ : ∃ r : Nat, x1 = r := ⟨Int.toNat x1, by omega⟩
    rw [Int.toNat_natCast] at k
    have h20 := pcN_20 (hG.2 r (by omega)) (show isSc x2 x3 from ⟨h2, h3⟩)
    refine c_X10_lay hW (by omega) (H.2 r (by omega)) (hG.2 r (by omega)) h2 h3 (fun g μ' g1 g2 => ?_) fun g μ' g2 => ?_
    · rw [cI_t g] at k
      refine g_X10_piece_34 hW ?_
      rw [g1.1, w32_id (x := ((pcN (R r) x2 x3 : Nat) : Int) - 1) (by omega) (by omega)]
      refine ⟨fun _ => ⟨fun q => ?_, fun q => ?_⟩, fun q => absurd q (by decide)⟩
      · obtain ⟨-, gb, gl⟩ := g1.2 (Int.toNat x4) (by omega)
        rw [gb, gl]
        rw [cI_t (show 0 ≤ x4 ∧ x4 < pcN (R r) x2 x3 by omega)] at k
        refine ⟨fun q3 => ⟨by omega, ?_⟩, fun q3 => ⟨by omega, ?_⟩⟩
        · rw [cI_t q3] at k; exact k μ' g2
        · rw [cI_f q3] at k; exact k μ' g2
      · rw [cI_f (fun z => by omega)] at k; exact k μ' g2
    · rw [cI_f g] at k
      exact g_X10_piece_34 hW ⟨fun q => absurd rfl q, fun _ => k μ' g2⟩
  · rw [cI_t h1, cI_f (fun z : isSc x2 x3 => h3 z.2)] at k; exact k μ frK_refl
  · rw [cI_f h1] at k; exact k μ frK_refl
end HO
