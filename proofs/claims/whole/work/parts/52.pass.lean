/-! one pass of the reference's improve, by any invariant -/
def betterP (μ : Nat → Nat → Int) (k : Nat) (C F : Int) (r : Nat) : Prop := μ 296 k = -9 ∨ C < μ 294 k ∨ (C = μ 294 k ∧ (F < μ 295 k ∨ (F = μ 295 k ∧ (r : Int) < μ 296 k)))
/-- the pass puts rule r at place k -/
def putP (μ μ' : Nat → Nat → Int) (k : Nat) (C F : Int) (r : Nat) : Prop := (μ' 294 k = C ∧ μ' 295 k = F ∧ μ' 296 k = r) ∧ (∀ j, j ≠ k → μ' 294 j = μ 294 j ∧ μ' 295 j = μ 295 j ∧ μ' 296 j = μ 296 j) ∧ (∀ b, b ≠ 265 → ¬ (278 ≤ b ∧ b ≤ 280) → ¬ (294 ≤ b ∧ b ≤ 296) → μ' b = μ b) ∧ ∀ j, j ≠ 14 → j ≠ 47 → j ≠ 48 → μ' 265 j = μ 265 j
section PS
variable {sh : List (Nat × Nat)} {ν : Nat → Nat → Option Nat} {μ : Nat → Nat → Int} {f s : Nat} {Q : xQ} {nR : Nat} {R : GR}
theorem c_X10_improve (hW : WF sh ν f s) {e : EV} (hG : okG nR R) {x y w h : Nat} (hc : okCell e x y w h) (I : Nat → Int → (Nat → Nat → Int) → Prop)
    (hI : ∀ r fl m, r ≤ nR → I r fl m → (fl = 0 ∨ fl = 1) ∧ IMg m nR R ∧ m 265 42 = eI e ∧ (e.1 = true → ∀ p, p < 81 → m 292 p = e.2 p) ∧ ∀ j, m 296 j ≠ -9 → (0 ≤ m 294 j ∧ m 294 j ≤ 10000000) ∧ 0 ≤ m 295 j ∧ m 295 j ≤ 10000000)
    (h0 : I 0 0 μ)
    (hno : ∀ r fl m m', r < nR → I r fl m → frT m m' → ¬ (tryP m e (R r) x y w h ∧ betterP m (plN e x y w h (Int.toNat (rn (R r)))) (tryC m e (R r) x y w h (pcN (R r) w h)) (tryF m e (R r) x y w h (pcN (R r) w h)) r) → I (r + 1) fl m')
    (hyes : ∀ r fl m m', r < nR → I r fl m → tryP m e (R r) x y w h → betterP m (plN e x y w h (Int.toNat (rn (R r)))) (tryC m e (R r) x y w h (pcN (R r) w h)) (tryF m e (R r) x y w h (pcN (R r) w h)) r → putP m m' (plN e x y w h (Int.toNat (rn (R r)))) (tryC m e (R r) x y w h (pcN (R r) w h)) (tryF m e (R r) x y w h (pcN (R r) w h)) r → I (r + 1) 1 m')
    (k : ∀ fl m, I nR fl m → Q (some (vI fl)) sh ν m) : X mX10_improve 0 [(0, vR 265), (1, vI (plN e x y w h 0 : Nat)), (2, vI (x : Nat)), (3, vI (y : Nat)), (4, vI (w : Nat)), (5, vI (h : Nat))] [] sh ν μ 0 0 Q := by
  have h40 := hG.1
  refine g_X10_improve_0 hW ?_
  have key := loop_up nR (fun (r : Nat) (st : Int × (Nat → Nat → Int)) => I r st.1 st.2) (fun r st => X mX10_improve 6 [(0, vR 265), (1, vI (plN e x y w h 0 : Nat)), (2, vI (x : Nat)), (3, vI (y : Nat)), (4, vI (w : Nat)), (5, vI (h : Nat)), (6, vI st.1), (7, vI (r : Nat))] [] sh ν st.2 0 0 Q) ?_ ?_ 0 ((0 : Int), μ) (Nat.zero_le _) h0
  · exact key
  · rintro ⟨fl, m⟩ hi
    obtain ⟨i1, i2, -, -, -⟩ := hI nR fl m (Nat.le_refl _) hi
    refine g_X10_improve_6 hW ?_
    show (m 265 0 ≤ (nR : Int) → _) ∧ ((nR : Int) < m 265 0 → _)
    rw [i2.1]
    exact ⟨fun _ => ⟨i1, k fl m hi⟩, fun q => absurd q (by omega)⟩
  · rintro r ⟨fl, m⟩ hr hi ih
    obtain ⟨i1, i2, i3, i4, i5⟩ := hI r fl m (by omega) hi
    have ho := hG.2 r hr
    have o1 := ho.1
    obtain ⟨nn, hnn⟩ : ∃ nn : Nat, rn (R r) = nn := ⟨Int.toNat (rn (R r)), by omega⟩
    have hn8 : nn < 8 := by omega
    have hno' := hno r fl m
    have hyes' := hyes r fl m
    rw [hnn, Int.toNat_natCast] at hno' hyes'
    have hpl := plN_b (n := nn) hc hn8
    have ek : w32 ((plN e x y w h 0 : Int) + (nn : Int)) = (plN e x y w h nn : Nat) := by
      have : plN e x y w h nn = plN e x y w h 0 + nn := rfl
      rw [w32_id (by omega) (by omega)]; omega
    have h155 : ∀ fl' m', I (r + 1) fl' m' → X mX10_improve 155 [(0, vR 265), (1, vI (plN e x y w h 0 : Nat)), (2, vI (x : Nat)), (3, vI (y : Nat)), (4, vI (w : Nat)), (5, vI (h : Nat)), (6, vI fl'), (7, vI (r : Nat))] [] sh ν m' 0 0 Q := by
      intro fl' m' hi'
      refine g_X10_improve_155 hW ?_
      rw [wi1 (by omega)]
      exact ih (fl', m') hi'
    refine g_X10_improve_6 hW ?_
    show (m 265 0 ≤ (r : Int) → _) ∧ ((r : Int) < m 265 0 → _)
    rw [i2.1]
    refine ⟨fun q => absurd q (by omega), fun _ => ⟨tI (show r < 40 by omega), ?_⟩⟩
    refine c_X10_tries hW (e := e) (by omega) (i2.2 r hr) ho hc i3 i4 i5 (fun hp m' t1 t2 t3 => ?_) (fun hp m' t3 => ?_)
    · have q296 : m' 296 = m 296 := t3.1 296 (by decide) (by decide)
      have q295 : m' 295 = m 295 := t3.1 295 (by decide) (by decide)
      have q294 : m' 294 = m 294 := t3.1 294 (by decide) (by decide)
      have no : ¬ betterP m (plN e x y w h nn) (tryC m e (R r) x y w h (pcN (R r) w h)) (tryF m e (R r) x y w h (pcN (R r) w h)) r → X mX10_improve 155 [(0, vR 265), (1, vI (plN e x y w h 0 : Nat)), (2, vI (x : Nat)), (3, vI (y : Nat)), (4, vI (w : Nat)), (5, vI (h : Nat)), (6, vI fl), (7, vI (r : Nat))] [] sh ν m' 0 0 Q := fun q => h155 fl m' (hno' m' hr hi t3 fun z => q z.2)
      have yes : betterP m (plN e x y w h nn) (tryC m e (R r) x y w h (pcN (R r) w h)) (tryF m e (R r) x y w h (pcN (R r) w h)) r → X mX10_improve 121 [(0, vR 265), (1, vI (plN e x y w h 0 : Nat)), (2, vI (x : Nat)), (3, vI (y : Nat)), (4, vI (w : Nat)), (5, vI (h : Nat)), (7, vI (r : Nat)), (8, vI (plN e x y w h nn : Nat))] [] sh ν m' 0 0 Q := by
        intro q
        refine g_X10_improve_121 hW ⟨tI hpl.2.1, tI hpl.2.1, tI hpl.2.1, h155 1 _ (hyes' _ hr hi hp q ⟨⟨?_, ?_, ?_⟩, fun j hj => ⟨?_, ?_, ?_⟩, fun b b0 b1 b2 => ?_, fun j j0 j1 j2 => ?_⟩)⟩
        · rw [Int.toNat_natCast, up_a' (show 294 ≠ 296 by decide), up_a' (show 294 ≠ 295 by decide), up_s]; exact t1
        · rw [Int.toNat_natCast, up_a' (show 295 ≠ 296 by decide), up_s]; exact t2
        · rw [Int.toNat_natCast, up_s]
        · rw [Int.toNat_natCast, up_a' (show 294 ≠ 296 by decide), up_a' (show 294 ≠ 295 by decide), up_k' hj, q294]
        · rw [Int.toNat_natCast, up_a' (show 295 ≠ 296 by decide), up_k' hj, up_a' (show 295 ≠ 294 by decide), q295]
        · rw [Int.toNat_natCast, up_k' hj, up_a' (show 296 ≠ 295 by decide), up_a' (show 296 ≠ 294 by decide), q296]
        · rw [up_o' (show b ≠ 296 by omega), up_o' (show b ≠ 295 by omega), up_o' (show b ≠ 294 by omega)]; exact t3.1 b b0 b1
        · rw [up_a' (show 265 ≠ 296 by decide), up_a' (show 265 ≠ 295 by decide), up_a' (show 265 ≠ 294 by decide)]; exact t3.2 j j0 j1 j2
      refine g_X10_improve_38 hW ?_
      have e266 : Prod.snd (fl, m) 266 r = nn := by show m 266 r = nn; rw [(i2.2 r hr).1.1]; exact hnn
      rw [Int.toNat_natCast, e266, ek, Int.toNat_natCast, q294, q295, q296, t1, t2]
      unfold betterP at no yes
      refine ⟨fun q => absurd q (by decide), fun _ => ⟨tI hpl.2.1, fun q => yes (Or.inl q), fun q1 => ⟨tI hpl.2.1, fun q => yes (Or.inr (Or.inl q)), fun q2 => ⟨tI hpl.2.1, fun q => no fun z => ?_, fun q3 => ⟨tI hpl.2.1, fun q => yes (Or.inr (Or.inr ⟨q3, Or.inl q⟩)), fun q4 => ⟨tI hpl.2.1, fun q => no fun z => ?_, fun q5 => ⟨tI hpl.2.1, fun q => no fun z => ?_, fun q => yes (Or.inr (Or.inr ⟨q3, Or.inr ⟨q5, q⟩⟩))⟩⟩⟩⟩⟩⟩⟩
      · rcases z with z | z | z
        · exact q1 z
        · omega
        · exact q z.1
      · rcases z with z | z | z
        · exact q1 z
        · omega
        · rcases z.2 with y | y
          · omega
          · exact q y.1
      · rcases z with z | z | z
        · exact q1 z
        · omega
        · rcases z.2 with y | y
          · omega
          · omega
    · refine g_X10_improve_38 hW ⟨fun _ => h155 fl m' (hno' m' hr hi t3 fun z => hp z.1), fun q => absurd rfl q⟩
end PS
