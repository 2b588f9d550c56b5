/-! the reference's work on a cell, whole -/
def tbd (m : Nat → Nat → Int) : Prop := ∀ j, m 296 j ≠ -9 → (0 ≤ m 294 j ∧ m 294 j ≤ 10000000) ∧ 0 ≤ m 295 j ∧ m 295 j ≤ 10000000
def chM (m : Nat → Nat → Int) (p : Nat) (M : Int) : Prop := ∃ S, chainI M (fun n => m 296 (p + n)) (fun n => m 294 (p + n)) (fun n => m 295 (p + n)) S
def jM (m : Nat → Nat → Int) (e : EV) (R : GR) (nR : Nat) (x y w h : Nat) : Prop := ∀ n, n < 8 → m 296 (plN e x y w h 0 + n) ≠ -9 → ∃ r : Nat, m 296 (plN e x y w h 0 + n) = r ∧ r < nR ∧ nmR R r = n ∧ ∃ v, v ≤ Bm m (plN e x y w h 0) n ∧ bV e R nR x y w h (Bm m (plN e x y w h 0)) r v
def msM (m : Nat → Nat → Int) (p : Nat) : Nat := sumT 8 (fun n => encN (m 296 (p + n)) (m 294 (p + n)) (m 295 (p + n)))
section WQ
variable {e : EV} {R : GR} {nR : Nat} {x y w h x' y' w' h' n n' r p : Nat} {m m' m0 : Nat → Nat → Int} {M : Int}
theorem plN_far (hc : okCell e x y w h) (hc' : okCell e x' y' w' h') (hne : w' + h' < w + h) (hn : n < 8) (hn' : n' < 8) : plN e x' y' w' h' n' ≠ plN e x y w h n := by
  obtain ⟨h1, h2, h3, h4, h5⟩ := hc
  obtain ⟨g1, g2, g3, g4, g5⟩ := hc'
  unfold plN plF eI
  by_cases q : e.1 = true
  · have := h5 q
    have := g5 q
    rw [if_pos q, if_neg (by decide), if_neg (by decide)]
    intro z
    have z1 : 729 * y' + 81 * x' + 9 * (h' - 1) + (w' - 1) = 729 * y + 81 * x + 9 * (h - 1) + (w - 1) := by omega
    clear z
    have z2 : w' = w := by omega
    subst z2
    have z3 : h' = h := by omega
    omega
  · rw [if_neg q, if_pos rfl, if_pos rfl]
    omega
theorem pcI_far {d : RD} (ho : okR d) (hc : okCell e x y w h) (hh : holdsF d w h) (hN : pcN d w h ≠ 1) {i : Nat} (hi : i < pcN d w h) (hn : n < 8) : plN e (Int.toNat (pcX d x w h i)) (Int.toNat (pcY d y w h i)) (Int.toNat (pcW d w h i)) (Int.toNat (pcH d w h i)) (Int.toNat (pcNm d i)) ≠ plN e x y w h n := by
  obtain ⟨hk, p1, p2, p3, p4, p5⟩ := pc_cell ho hc hh hi
  have hl := pc_less ho hc hh hN hi
  exact plN_far hc p5 (by omega) hn (pcNm_8 ho hk hi)
theorem okV_ch (hM : M = 16 * ((w : Int) * h) - 16) (hS : chM m p M) : okV m p ((w : Int) * h) := by
  obtain ⟨S, hS⟩ := hS
  intro n hn q
  have := chain_bound hS hn q
  omega
theorem tbP_far (hG : okG nR R) (hc : okCell e x y w h) (hT : tbP m e R nR x y w h) (hf : ∀ j, ¬ (plN e x y w h 0 ≤ j ∧ j < plN e x y w h 0 + 8) → m' 294 j = m 294 j ∧ m' 295 j = m 295 j ∧ m' 296 j = m 296 j) : tbP m' e R nR x y w h := by
  intro r hr g hN i hi
  have hk := pcN_k hi
  have hfar : ¬ (plN e x y w h 0 ≤ plN e (Int.toNat (pcX (R r) x w h i)) (Int.toNat (pcY (R r) y w h i)) (Int.toNat (pcW (R r) w h i)) (Int.toNat (pcH (R r) w h i)) (Int.toNat (pcNm (R r) i)) ∧ plN e (Int.toNat (pcX (R r) x w h i)) (Int.toNat (pcY (R r) y w h i)) (Int.toNat (pcW (R r) w h i)) (Int.toNat (pcH (R r) w h i)) (Int.toNat (pcNm (R r) i)) < plN e x y w h 0 + 8) := by
    rintro ⟨q1, q2⟩
    have := pcI_far (e := e) (n := plN e (Int.toNat (pcX (R r) x w h i)) (Int.toNat (pcY (R r) y w h i)) (Int.toNat (pcW (R r) w h i)) (Int.toNat (pcH (R r) w h i)) (Int.toNat (pcNm (R r) i)) - plN e x y w h 0) (hG.2 r hr) hc g (hN hk) hi (by omega)
    have e1 : ∀ n, plN e x y w h n = plN e x y w h 0 + n := fun n => rfl
    rw [e1] at this
    omega
  obtain ⟨f1, f2, f3⟩ := hf _ hfar
  obtain ⟨t1, t2⟩ := hT r hr g hN i hi
  refine ⟨f3.trans t1, fun q => ?_⟩
  obtain ⟨t3, t4⟩ := t2 q
  exact ⟨f1.trans t3, f2.trans t4⟩
theorem work_put (hG : okG nR R) (hc : okCell e x y w h) (hr : r < nR) (hT : tbP m e R nR x y w h) (hM : M = 16 * ((w : Int) * h) - 16) (hS : chM m (plN e x y w h 0) M) (hJ : jM m e R nR x y w h) (hp : tryP m e (R r) x y w h)
    (hb : betterP m (plN e x y w h (nmR R r)) (tryC m e (R r) x y w h (pcN (R r) w h)) (tryF m e (R r) x y w h (pcN (R r) w h)) r)
    (hput : putP m m' (plN e x y w h (nmR R r)) (tryC m e (R r) x y w h (pcN (R r) w h)) (tryF m e (R r) x y w h (pcN (R r) w h)) r) :
    chM m' (plN e x y w h 0) M ∧ jM m' e R nR x y w h ∧ msM m' (plN e x y w h 0) < msM m (plN e x y w h 0) := by
  have hv := okV_ch hM hS
  have h40 := hG.1
  obtain ⟨c1, c2, c3, c4, c5⟩ := id hc
  have hA1 := area_pos c1 c2
  have hA2 := area_le (show w ≤ 20 by omega) (show h ≤ 20 by omega)
  have hrc := (hG.2 r hr).2.2.1
  have hn8 : nmR R r < 8 := by have := (hG.2 r hr).1; unfold nmR; omega
  have hval := (tr_val hG hr hc hT hv).1 hp
  obtain ⟨⟨u1, u2, u3⟩, u4, -, -⟩ := hput
  have e1 : plN e x y w h (nmR R r) = plN e x y w h 0 + nmR R r := rfl
  rw [e1] at hb u1 u2 u3 u4
  generalize hp0 : plN e x y w h 0 = p at *
  generalize hnn : nmR R r = nn at *
  generalize hC : tryC m e (R r) x y w h (pcN (R r) w h) = C at *
  generalize hF : tryF m e (R r) x y w h (pcN (R r) w h) = F at *
  -- the bounds of C and F
  have hCF : (0 ≤ C ∧ C ≤ 99 * F ∧ 1 ≤ F ∧ F ≤ 16 * ((w : Int) * h)) := by
    by_cases ht : rk (R r) ≠ 0 ∧ pcN (R r) w h = 1
    · obtain ⟨k, hk8, a1, a2, a3, a4⟩ := tr_tie (m := m) hG hr hc hp.1 ht.1 ht.2
      rw [hp0] at a2 a3 a4
      have := hv k hk8 (a2.1 hp)
      omega
    · obtain ⟨-, t2⟩ := tr_base hG hr hc (fun z1 z2 => ht ⟨z1, z2⟩) hT
      have := t2 hp
      omega
  have hlt : m 296 (p + nn) = -9 ∨ lexl C F (m 294 (p + nn)) (m 295 (p + nn)) ∨ (C = m 294 (p + nn) ∧ F = m 295 (p + nn) ∧ (r : Int) < m 296 (p + nn)) := by
    unfold betterP at hb
    unfold lexl
    omega
  have s6 : (fun n => m' 296 (p + n)) = setA (fun n => m 296 (p + n)) nn r := by
    funext n
    by_cases q : n = nn
    · rw [q, setA_s]; exact u3
    · rw [setA_o q]; exact (u4 _ (by omega)).2.2
  have s4 : (fun n => m' 294 (p + n)) = setA (fun n => m 294 (p + n)) nn C := by
    funext n
    by_cases q : n = nn
    · rw [q, setA_s]; exact u1
    · rw [setA_o q]; exact (u4 _ (by omega)).1
  have s5 : (fun n => m' 295 (p + n)) = setA (fun n => m 295 (p + n)) nn F := by
    funext n
    by_cases q : n = nn
    · rw [q, setA_s]; exact u2
    · rw [setA_o q]; exact (u4 _ (by omega)).2.1
  have hBs : ∀ n, n ≠ nn → Bm m' p n = Bm m p n := fun n q => by
    obtain ⟨g1, g2, g3⟩ := u4 (p + n) (by omega)
    unfold Bm; rw [g1, g2, g3]
  have hBn : Bm m' p nn = wt C F := by
    unfold Bm; rw [u1, u2, u3]; exact if_neg (by omega)
  have hBle : ∀ k, k < 8 → Bm m p k ≠ -9 → Bm m' p k ≠ -9 ∧ Bm m' p k ≤ Bm m p k := fun k hk q => by
    by_cases z : k = nn
    · subst z
      have q2 := (Bm_ne hv hk).1 q
      have q3 := hv k hk q2
      have q4 : Bm m p k = wt (m 294 (p + k)) (m 295 (p + k)) := if_neg q2
      rw [hBn, q4]
      unfold lexl at hlt
      unfold wt
      omega
    · rw [hBs k z]; exact ⟨q, Int.le_refl _⟩
  refine ⟨?_, ?_, ?_⟩
  · obtain ⟨S, hS⟩ := hS
    unfold chM
    rw [s6, s4, s5]
    by_cases hsame : m 296 (p + nn) ≠ -9 ∧ C = m 294 (p + nn) ∧ F = m 295 (p + nn)
    · have g4 : setA (fun n => m 294 (p + n)) nn C = fun n => m 294 (p + n) := by
        funext n
        by_cases q : n = nn
        · rw [q, setA_s]; exact hsame.2.1
        · rw [setA_o q]
      have g5 : setA (fun n => m 295 (p + n)) nn F = fun n => m 295 (p + n) := by
        funext n
        by_cases q : n = nn
        · rw [q, setA_s]; exact hsame.2.2
        · rw [setA_o q]
      rw [g4, g5]
      exact ⟨S, chain_same hS hsame.1 (by omega)⟩
    · have hlt2 : m 296 (p + nn) = -9 ∨ lexl C F (m 294 (p + nn)) (m 295 (p + nn)) := by
        rcases hlt with q | q | q
        · exact Or.inl q
        · exact Or.inr q
        · by_cases z : m 296 (p + nn) = -9
          · exact Or.inl z
          · exact absurd ⟨z, q.1, q.2.1⟩ hsame
      by_cases ht : rk (R r) ≠ 0 ∧ pcN (R r) w h = 1
      · obtain ⟨k, hk8, a1, a2, a3, a4⟩ := tr_tie (m := m) hG hr hc hp.1 ht.1 ht.2
        rw [hp0] at a2 a3 a4
        rw [hC] at a3
        rw [hF] at a4
        rw [a3, a4] at hlt2 ⊢
        exact chain_tie hS hn8 hk8 (a2.1 hp) (by omega) (by omega) hlt2
      · obtain ⟨-, t2⟩ := tr_base hG hr hc (fun z1 z2 => ht ⟨z1, z2⟩) hT
        have := t2 hp
        refine chain_base hS hn8 (by omega) hlt2 (by omega) (by omega)
  · intro n hn q
    rw [hp0] at q ⊢
    by_cases z : n = nn
    · subst z
      obtain ⟨v', h1, h2⟩ := bV_mono hBle hval
      exact ⟨r, u3, hr, hnn, v', by rw [hBn]; exact h1, h2⟩
    · have g := (u4 (p + n) (by omega)).2.2
      rw [g] at q ⊢
      have hj := hJ n hn
      rw [hp0] at hj
      obtain ⟨r', j1, j2, j3, v, j4, j5⟩ := hj q
      obtain ⟨v', h1, h2⟩ := bV_mono hBle j5
      exact ⟨r', j1, j2, j3, v', by rw [hBs n z]; omega, h2⟩
  · unfold msM
    refine sumT_lt hn8 ?_ fun i hi hin => ?_
    · rw [u1, u2, u3]
      refine encN_lt (by omega) (by omega) (fun q => ?_) hlt
      have hj := hJ nn hn8
      rw [hp0] at hj
      obtain ⟨r', j1, j2, -⟩ := hj q
      have := hv nn hn8 q
      omega
    · obtain ⟨g1, g2, g3⟩ := u4 (p + i) (by omega)
      show encN (m' 296 (p + i)) (m' 294 (p + i)) (m' 295 (p + i)) = _
      rw [g1, g2, g3]
end WQ
section WR
variable {sh : List (Nat × Nat)} {ν : Nat → Nat → Option Nat} {μ : Nat → Nat → Int} {f s : Nat} {Q : xQ} {nR : Nat} {R : GR}
/-- what the work on a cell leaves -/
def frW (p : Nat) (μ μ' : Nat → Nat → Int) : Prop := (∀ b, b ≠ 265 → ¬ (278 ≤ b ∧ b ≤ 280) → ¬ (293 ≤ b ∧ b ≤ 300) → μ' b = μ b) ∧ (∀ j, j ≠ 14 → j ≠ 47 → j ≠ 48 → μ' 265 j = μ 265 j) ∧ ∀ j, ¬ (p ≤ j ∧ j < p + 8) → μ' 293 j = μ 293 j ∧ μ' 294 j = μ 294 j ∧ μ' 295 j = μ 295 j ∧ μ' 296 j = μ 296 j
/-- what the passes leave -/
def frZ (p : Nat) (μ μ' : Nat → Nat → Int) : Prop := (∀ b, b ≠ 265 → ¬ (278 ≤ b ∧ b ≤ 280) → ¬ (294 ≤ b ∧ b ≤ 296) → μ' b = μ b) ∧ (∀ j, j ≠ 14 → j ≠ 47 → j ≠ 48 → μ' 265 j = μ 265 j) ∧ ∀ j, ¬ (p ≤ j ∧ j < p + 8) → μ' 294 j = μ 294 j ∧ μ' 295 j = μ 295 j ∧ μ' 296 j = μ 296 j
theorem c_X10_work (hW : WF sh ν f s) {e : EV} (hG : okG nR R) (HM : IMg μ nR R) {x y w h : Nat} (hc : okCell e x y w h) (he : μ 265 42 = eI e) (hB : e.1 = true → ∀ p, p < 81 → μ 292 p = e.2 p) (hbd : tbd μ)
    (hTV : ∀ r, r < nR → holdsF (R r) w h → pcN (R r) w h ≠ 1 → ∀ i, i < pcN (R r) w h → enV μ e R nR (Int.toNat (pcX (R r) x w h i)) (Int.toNat (pcY (R r) y w h i)) (Int.toNat (pcW (R r) w h i)) (Int.toNat (pcH (R r) w h i)) (Int.toNat (pcNm (R r) i))) (hTB : tbP μ e R nR x y w h)
    (k : ∀ μ' : Nat → Nat → Int, (∀ n, n < 8 → enV μ' e R nR x y w h n ∧ enB μ' e R nR x y w h n) → tbd μ' → frW (plN e x y w h 0) μ μ' → Q none sh ν μ') : X mX10_work 0 [(0, vR 265), (1, vI (x : Nat)), (2, vI (y : Nat)), (3, vI (w : Nat)), (4, vI (h : Nat))] [] sh ν μ 0 0 Q := by
  refine c_X10_work1 hW (V := VW e R nR) hG HM hc he hB (fun r hr g hN i hi => ⟨hTV r hr g hN i hi, pcV_ok hG hc hr g hi⟩) fun m0 v1 v2 v3 => ?_
  obtain ⟨v3a, v3b, v3c⟩ := v3
  have hA2 := area_le (show w ≤ 20 by have := hc.2.2.1; omega) (show h ≤ 20 by have := hc.2.2.2.1; omega)
  have e1 : ∀ n, plN e x y w h n = plN e x y w h 0 + n := fun n => rfl
  have q0 : ∀ b, b ≠ 265 → ¬ (278 ≤ b ∧ b ≤ 280) → ¬ (293 ≤ b ∧ b ≤ 300) → m0 b = μ b := fun b b0 b1 b2 => v3a b b0 b1 (by omega) (by omega)
  have q4 : m0 294 = μ 294 := v3a 294 (by decide) (by decide) (by decide) (by decide)
  have q5 : m0 295 = μ 295 := v3a 295 (by decide) (by decide) (by decide) (by decide)
  have hT0 : tbP m0 e R nR x y w h := tbP_far hG hc hTB fun j hj => ⟨by rw [q4], by rw [q5], (v3c j hj).2⟩
  have hfr : ∀ m, frZ (plN e x y w h 0) m0 m → tbP m e R nR x y w h := fun m hm => tbP_far hG hc hT0 hm.2.2
  have hbdm : ∀ m, frZ (plN e x y w h 0) m0 m → okV m (plN e x y w h 0) ((w : Int) * h) → tbd m := by
    intro m hm hv j hj
    by_cases q : plN e x y w h 0 ≤ j ∧ j < plN e x y w h 0 + 8
    · have := hv (j - plN e x y w h 0) (by omega)
      rw [show plN e x y w h 0 + (j - plN e x y w h 0) = j by omega] at this
      have := this hj
      omega
    · obtain ⟨g1, g2, g3⟩ := hm.2.2 j q
      rw [g1, g2, q4, q5]
      rw [g3, (v3c j q).2] at hj
      exact hbd j hj
  refine c_X10_work109 hW (fun m => frZ (plN e x y w h 0) m0 m ∧ chM m (plN e x y w h 0) (16 * ((w : Int) * h) - 16) ∧ jM m e R nR x y w h) (fun m => msM m (plN e x y w h 0)) (fun m => frZ (plN e x y w h 0) m0 m ∧ okV m (plN e x y w h 0) ((w : Int) * h) ∧ ∀ n, n < 8 → enB m e R nR x y w h n) ?_ ⟨⟨fun _ _ _ _ => rfl, fun _ _ _ _ => rfl, fun _ _ => ⟨rfl, rfl, rfl⟩⟩, ⟨fun _ _ => false, fun n hn q => absurd (v2 n hn) q⟩, fun n hn q => absurd (v2 n hn) q⟩ ?_
  · rintro m ⟨f1, f2, f3⟩ Q' kk1 kk0
    refine c_X10_improve hW hG hc (fun r fl m' => (fl = 0 ∨ fl = 1) ∧ frZ (plN e x y w h 0) m0 m' ∧ chM m' (plN e x y w h 0) (16 * ((w : Int) * h) - 16) ∧ jM m' e R nR x y w h ∧ (fl = 1 → msM m' (plN e x y w h 0) < msM m (plN e x y w h 0)) ∧ (fl = 0 → msM m' (plN e x y w h 0) = msM m (plN e x y w h 0) ∧ ∀ r', r' < r → ¬ (tryP m' e (R r') x y w h ∧ betterP m' (plN e x y w h (nmR R r')) (tryC m' e (R r') x y w h (pcN (R r') w h)) (tryF m' e (R r') x y w h (pcN (R r') w h)) r'))) ?_ ⟨Or.inl rfl, f1, f2, f3, fun q => absurd q (by decide), fun _ => ⟨rfl, fun r' hr' => absurd hr' (Nat.not_lt_zero r')⟩⟩ ?_ ?_ ?_
    · rintro r fl m' hr ⟨i1, i2, i3, i4, i5, i6⟩
      refine ⟨i1, ?_, ?_, ?_, hbdm m' i2 (okV_ch rfl i3)⟩
      · refine IMg_congr (by rw [i2.2.1 0 (by decide) (by decide) (by decide), v3b 0 (by decide)]) (fun b b0 b1 => ?_) HM
        rw [i2.1 b (by omega) (by omega) (by omega), q0 b (by omega) (by omega) (by omega)]
      · rw [i2.2.1 42 (by decide) (by decide) (by decide), v3b 42 (by decide)]; exact he
      · intro z p hp
        rw [i2.1 292 (by decide) (by decide) (by decide), q0 292 (by decide) (by decide) (by decide)]; exact hB z p hp
    · rintro r fl m' m'' hr ⟨i1, i2, i3, i4, i5, i6⟩ hf hn
      have g4 : m'' 294 = m' 294 := hf.1 294 (by decide) (by decide)
      have g5 : m'' 295 = m' 295 := hf.1 295 (by decide) (by decide)
      have g6 : m'' 296 = m' 296 := hf.1 296 (by decide) (by decide)
      have t1 : ∀ r, tryP m'' e (R r) x y w h = tryP m' e (R r) x y w h := fun r => by unfold tryP; rw [g6]
      have t2 : ∀ r i, tryC m'' e (R r) x y w h i = tryC m' e (R r) x y w h i := fun r i => by unfold tryC; rw [g4]
      have t3 : ∀ r i, tryF m'' e (R r) x y w h i = tryF m' e (R r) x y w h i := fun r i => by unfold tryF; rw [g5]
      have t4 : ∀ p C F r, betterP m'' p C F r = betterP m' p C F r := fun p C F r => by unfold betterP; rw [g4, g5, g6]
      have t5 : Bm m'' (plN e x y w h 0) = Bm m' (plN e x y w h 0) := by funext n; unfold Bm; rw [g4, g5, g6]
      have t6 : msM m'' (plN e x y w h 0) = msM m' (plN e x y w h 0) := by unfold msM; rw [g4, g5, g6]
      refine ⟨i1, ⟨fun b b0 b1 b2 => by rw [hf.1 b b0 b1]; exact i2.1 b b0 b1 b2, fun j j0 j1 j2 => by rw [hf.2 j j0 j1 j2]; exact i2.2.1 j j0 j1 j2, fun j hj => by rw [g4, g5, g6]; exact i2.2.2 j hj⟩, by unfold chM; rw [g4, g5, g6]; exact i3, by unfold jM; rw [g6, t5]; exact i4, fun q => by rw [t6]; exact i5 q, fun q => ⟨by rw [t6]; exact (i6 q).1, fun r' hr' => ?_⟩⟩
      rw [t1, t2, t3, t4]
      by_cases z : r' = r
      · rw [z]; exact hn
      · exact (i6 q).2 r' (by omega)
    · rintro r fl m' m'' hr ⟨i1, i2, i3, i4, i5, i6⟩ hp hb hput
      obtain ⟨w1, w2, w3⟩ := work_put hG hc hr (hfr m' i2) rfl i3 i4 hp hb hput
      have hn8 : nmR R r < 8 := by have := (hG.2 r hr).1; unfold nmR; omega
      refine ⟨Or.inr rfl, ⟨fun b b0 b1 b2 => by rw [hput.2.2.1 b b0 b1 b2]; exact i2.1 b b0 b1 b2, fun j j0 j1 j2 => by rw [hput.2.2.2 j j0 j1 j2]; exact i2.2.1 j j0 j1 j2, fun j hj => ?_⟩, w1, w2, fun _ => ?_, fun q => absurd q (by decide)⟩
      · have hne : j ≠ plN e x y w h (Int.toNat (rn (R r))) := by
          have : plN e x y w h (Int.toNat (rn (R r))) = plN e x y w h 0 + nmR R r := rfl
          omega
        obtain ⟨g1, g2, g3⟩ := hput.2.1 j hne
        rw [g1, g2, g3]; exact i2.2.2 j hj
      · rcases i1 with q | q
        · have := (i6 q).1; omega
        · have := i5 q; omega
    · rintro fl m' ⟨i1, i2, i3, i4, i5, i6⟩
      rcases i1 with q | q
      · subst q
        exact kk0 m' ⟨i2, okV_ch rfl i3, bell_end hG hc (hfr m' i2) (okV_ch rfl i3) i4 (i6 rfl).2⟩
      · subst q
        exact kk1 m' ⟨i2, i3, i4⟩ (i5 rfl)
  · rintro m ⟨f1, f2, f3⟩
    refine k m (fun n hn => ⟨?_, f3 n hn⟩) (hbdm m f1 f2) ⟨fun b b0 b1 b2 => by rw [f1.1 b b0 b1 (by omega)]; exact q0 b b0 b1 b2, fun j j0 j1 j2 => by rw [f1.2.1 j j0 j1 j2]; exact v3b j j0, fun j hj => ?_⟩
    · unfold enV
      rw [f1.1 293 (by decide) (by decide) (by decide), v1 n hn, VW_eq hG hc]
    · obtain ⟨g1, g2, g3⟩ := f1.2.2 j hj
      rw [f1.1 293 (by decide) (by decide) (by decide), g1, g2, g3, q4, q5]
      exact ⟨(v3c j hj).1, rfl, rfl, (v3c j hj).2⟩
end WR
