/-! the reference's tables: all scopes, all parts of the board -/
def eFr : EV := (false, fun _ => 0)
def eBd (B : BD) : EV := (true, bl B)
def dnT (m : Nat → Nat → Int) (e : EV) (R : GR) (nR : Nat) (P : Nat → Nat → Nat → Nat → Prop) : Prop := ∀ x y w h, P x y w h → ∀ n, n < 8 → enV m e R nR x y w h n ∧ enB m e R nR x y w h n
section TA
variable {e : EV} {R : GR} {nR : Nat} {x y w h x' y' w' h' n n' r : Nat} {m m' : Nat → Nat → Int}
theorem plN_xy (he : e.1 = false) : plN e x y w h n = plN e 0 0 w h n := by
  have e0 : eI e = 0 := by unfold eI; rw [he]; rfl
  unfold plN plF
  rw [e0, if_pos rfl, if_pos rfl]
theorem bV_xy (hG : okG nR R) (he : e.1 = false) {B : Nat → Int} {v : Int} : bV e R nR x y w h B r v ↔ bV e R nR 0 0 w h B r v := by
  refine bVal_congr ?_ fun _ => ?_
  · unfold bAp
    have hp : ∀ i, pcV (VB e R nR) (R r) x y w h i = pcV (VB e R nR) (R r) 0 0 w h i := fun i => pcV_xy fun _ _ _ _ _ => VB_xy hG he
    have hl : ∀ l, okL e x y w h l ↔ okL e 0 0 w h l := fun l => ⟨fun _ z => by rw [he] at z; exact absurd z (by decide), fun _ z => by rw [he] at z; exact absurd z (by decide)⟩
    constructor
    · rintro ⟨h1, h2, h3, h4⟩
      exact ⟨h1, fun z => (hl _).1 (h2 z), h3, fun i hi => by rw [← hp]; exact h4 i hi⟩
    · rintro ⟨h1, h2, h3, h4⟩
      exact ⟨h1, fun z => (hl _).2 (h2 z), h3, fun i hi => by rw [hp]; exact h4 i hi⟩
  · unfold bWp
    rw [sumN_congr (f := pcV (VB e R nR) (R r) x y w h) (g := pcV (VB e R nR) (R r) 0 0 w h) fun i _ => pcV_xy fun _ _ _ _ _ => VB_xy hG he]
theorem isPk_xy (hG : okG nR R) (he : e.1 = false) : isPk e R nR x y w h n r ↔ isPk e R nR 0 0 w h n r := by
  have e1 : VB e R nR x y w h = VB e R nR 0 0 w h := funext fun n => VB_xy hG he
  unfold isPk
  rw [e1]
  constructor
  · rintro ⟨h1, h2, h3, h4⟩
    exact ⟨h1, h2, (bV_xy hG he).1 h3, fun r' hr hm z => h4 r' hr hm ((bV_xy hG he).2 z)⟩
  · rintro ⟨h1, h2, h3, h4⟩
    exact ⟨h1, h2, (bV_xy hG he).2 h3, fun r' hr hm z => h4 r' hr hm ((bV_xy hG he).1 z)⟩
theorem VP_xy (hG : okG nR R) (he : e.1 = false) : VP e R nR x y w h n = VP e R nR 0 0 w h n := by
  unfold VP
  have : pkP e R nR x y w h n = pkP e R nR 0 0 w h n := by
    funext v
    unfold pkP
    have e2 : isPk e R nR x y w h n = isPk e R nR 0 0 w h n := funext fun r => propext (isPk_xy hG he)
    rw [VB_xy hG he, e2]
  rw [this]
theorem en_xy (hG : okG nR R) (he : e.1 = false) : (enV m e R nR x y w h n ∧ enB m e R nR x y w h n) ↔ (enV m e R nR x' y' w h n ∧ enB m e R nR x' y' w h n) := by
  unfold enV enB
  rw [plN_xy he, VW_xy he, VB_xy hG he, VP_xy hG he, plN_xy (x := x') he, VW_xy (x := x') he, VB_xy (x := x') hG he, VP_xy (x := x') hG he]
theorem plN_inj (hc : okCell e x y w h) (hc' : okCell e x' y' w' h') (hn : n < 8) (hn' : n' < 8) (q : plN e x' y' w' h' n' = plN e x y w h n) : w' = w ∧ h' = h ∧ n' = n ∧ (e.1 = true → x' = x ∧ y' = y) := by
  obtain ⟨h1, h2, h3, h4, h5⟩ := hc
  obtain ⟨g1, g2, g3, g4, g5⟩ := hc'
  unfold plN plF eI at q
  by_cases qe : e.1 = true
  · have := h5 qe
    have := g5 qe
    rw [if_pos qe, if_neg (by decide), if_neg (by decide)] at q
    have z1 : 729 * y' + 81 * x' + 9 * (h' - 1) + (w' - 1) = 729 * y + 81 * x + 9 * (h - 1) + (w - 1) ∧ n' = n := by omega
    clear q
    obtain ⟨z1, z5⟩ := z1
    have z2 : w' = w := by omega
    subst z2
    have z3 : h' = h := by omega
    subst z3
    have z4 : x' = x := by omega
    subst z4
    exact ⟨rfl, rfl, z5, fun _ => ⟨rfl, by omega⟩⟩
  · rw [if_neg qe, if_pos rfl, if_pos rfl] at q
    have z1 : 20 * (h' - 1) + (w' - 1) = 20 * (h - 1) + (w - 1) ∧ n' = n := by omega
    clear q
    obtain ⟨z1, z5⟩ := z1
    have z2 : w' = w := by omega
    subst z2
    exact ⟨rfl, by omega, z5, fun z => absurd z qe⟩
theorem plN_side (hc : okCell e x y w h) (hn : n < 8) : (e.1 = true → plN e x y w h n < 52488) ∧ (e.1 = false → 52488 ≤ plN e x y w h n) := by
  obtain ⟨h1, h2, h3, h4, h5⟩ := hc
  unfold plN plF eI
  by_cases qe : e.1 = true
  · have := h5 qe
    rw [if_pos qe, if_neg (by decide)]
    exact ⟨fun _ => by omega, fun z => by rw [qe] at z; exact absurd z (by decide)⟩
  · rw [if_neg qe, if_pos rfl]
    exact ⟨fun z => absurd z qe, fun _ => by omega⟩
/-- where the pieces lie -/
theorem pc_in {d : RD} (ho : okR d) (hc : okCell e x y w h) (hh : holdsF d w h) {i : Nat} (hi : i < pcN d w h) : Int.toNat (pcW d w h i) ≤ w ∧ Int.toNat (pcH d w h i) ≤ h ∧ x ≤ Int.toNat (pcX d x w h i) ∧ y ≤ Int.toNat (pcY d y w h i) ∧ Int.toNat (pcX d x w h i) + Int.toNat (pcW d w h i) ≤ x + w ∧ Int.toNat (pcY d y w h i) + Int.toNat (pcH d w h i) ≤ y + h := by
  have hk := pcN_k hi
  obtain ⟨h1, h2, h3, h4, h5⟩ := hc
  have hs : isSc (w : Int) (h : Int) := ⟨by omega, by omega⟩
  obtain ⟨b1, b2, b3⟩ := pcB_b ho hs hh hk hi
  unfold pcX pcY pcW pcH
  unfold rLn at b3
  by_cases q : rk d = 2 ∨ rk d = 4
  · rw [if_pos q] at b3
    rw [if_pos q, if_pos q, if_pos q, if_pos q]
    omega
  · rw [if_neg q] at b3
    rw [if_neg q, if_neg q, if_neg q, if_neg q]
    omega
end TA
section TB
variable {sh : List (Nat × Nat)} {ν : Nat → Nat → Option Nat} {μ : Nat → Nat → Int} {f s : Nat} {Q : xQ} {nR : Nat} {R : GR} {B : BD}
/-- one more cell -/
theorem c_X10_workD (hW : WF sh ν f s) {e : EV} (hG : okG nR R) (HM : IMg μ nR R) {x y w h : Nat} (hc : okCell e x y w h) (he : μ 265 42 = eI e) (hB : e.1 = true → ∀ p, p < 81 → μ 292 p = e.2 p) (hbd : tbd μ) (P P' : Nat → Nat → Nat → Nat → Prop) (hP : dnT μ e R nR P) (hok : ∀ x' y' w' h', P' x' y' w' h' → okCell e x' y' w' h') (hstep : ∀ x' y' w' h', P' x' y' w' h' → P x' y' w' h' ∨ (w' = w ∧ h' = h ∧ (e.1 = true → x' = x ∧ y' = y)))
    (hin : ∀ x' y' w' h', okCell e x' y' w' h' → w' + h' < w + h → w' ≤ w → h' ≤ h → x' + w' ≤ x + w → y' + h' ≤ y + h → P x' y' w' h')
    (k : ∀ μ' : Nat → Nat → Int, dnT μ' e R nR P' → tbd μ' → frW (plN e x y w h 0) μ μ' → Q none sh ν μ') : X mX10_work 0 [(0, vR 265), (1, vI (x : Nat)), (2, vI (y : Nat)), (3, vI (w : Nat)), (4, vI (h : Nat))] [] sh ν μ 0 0 Q := by
  have hpc : ∀ r, r < nR → holdsF (R r) w h → pcN (R r) w h ≠ 1 → ∀ i, i < pcN (R r) w h → P (Int.toNat (pcX (R r) x w h i)) (Int.toNat (pcY (R r) y w h i)) (Int.toNat (pcW (R r) w h i)) (Int.toNat (pcH (R r) w h i)) ∧ Int.toNat (pcNm (R r) i) < 8 := fun r hr g hN i hi => by
    obtain ⟨hk, p1, p2, p3, p4, p5⟩ := pc_cell (hG.2 r hr) hc g hi
    obtain ⟨q1, q2, q3, q4, q5, q6⟩ := pc_in (hG.2 r hr) hc g hi
    have hl := pc_less (hG.2 r hr) hc g hN hi
    exact ⟨hin _ _ _ _ p5 (by omega) q1 q2 q5 q6, pcNm_8 (hG.2 r hr) hk hi⟩
  refine c_X10_work hW hG HM hc he hB hbd (fun r hr g hN i hi => ?_) (fun r hr g hN i hi => ?_) fun μ' t1 t2 t3 => ?_
  · obtain ⟨q1, q2⟩ := hpc r hr g hN i hi
    exact (hP _ _ _ _ q1 _ q2).1
  · obtain ⟨q1, q2⟩ := hpc r hr g (hN (pcN_k hi)) i hi
    exact (hP _ _ _ _ q1 _ q2).2
  · refine k μ' (fun x' y' w' h' hP' n hn => ?_) t2 t3
    have hc' := hok _ _ _ _ hP'
    by_cases q : w' = w ∧ h' = h ∧ (e.1 = true → x' = x ∧ y' = y)
    · obtain ⟨rfl, rfl, q3⟩ := q
      by_cases qe : e.1 = true
      · obtain ⟨rfl, rfl⟩ := q3 qe
        exact t1 n hn
      · exact (en_xy hG (by simpa using qe)).1 (t1 n hn)
    · rcases hstep _ _ _ _ hP' with z | z
      · obtain ⟨g1, g2⟩ := hP _ _ _ _ z n hn
        have hfar : ¬ (plN e x y w h 0 ≤ plN e x' y' w' h' n ∧ plN e x' y' w' h' n < plN e x y w h 0 + 8) := by
          rintro ⟨a1, a2⟩
          have e1 : plN e x' y' w' h' n = plN e x y w h (plN e x' y' w' h' n - plN e x y w h 0) := by
            show plN e x' y' w' h' n = plN e x y w h 0 + (plN e x' y' w' h' n - plN e x y w h 0)
            omega
          obtain ⟨b1, b2, b3, b4⟩ := plN_inj hc hc' (by omega) hn e1
          exact q ⟨b1, b2, b4⟩
        obtain ⟨f1, f2, f3, f4⟩ := t3.2.2 _ hfar
        unfold enV enB at *
        rw [f1, f2, f3, f4]
        exact ⟨g1, g2⟩
      · exact absurd z q
/-- what the works leave; lo to hi: the places of the table they touch -/
def frS (lo hi : Nat) (μ μ' : Nat → Nat → Int) : Prop := (∀ b, b ≠ 265 → ¬ (278 ≤ b ∧ b ≤ 280) → ¬ (293 ≤ b ∧ b ≤ 300) → μ' b = μ b) ∧ (∀ j, j ≠ 14 → j ≠ 47 → j ≠ 48 → j ≠ 42 → j ≠ 49 → j ≠ 50 → μ' 265 j = μ 265 j) ∧ ∀ j, ¬ (lo ≤ j ∧ j < hi) → μ' 293 j = μ 293 j ∧ μ' 294 j = μ 294 j ∧ μ' 295 j = μ 295 j ∧ μ' 296 j = μ 296 j
theorem frS_W {lo hi p : Nat} {m m' : Nat → Nat → Int} (h1 : frS lo hi μ m) (h2 : frW p m m') (hp : lo ≤ p ∧ p + 8 ≤ hi) : frS lo hi μ m' := ⟨fun b b0 b1 b2 => by rw [h2.1 b b0 b1 b2]; exact h1.1 b b0 b1 b2, fun j j0 j1 j2 j3 j4 j5 => by rw [h2.2.1 j j0 j1 j2]; exact h1.2.1 j j0 j1 j2 j3 j4 j5, fun j hj => by
  obtain ⟨f1, f2, f3, f4⟩ := h2.2.2 j (by omega)
  rw [f1, f2, f3, f4]; exact h1.2.2 j hj⟩
theorem frS_g {lo hi : Nat} {m : Nat → Nat → Int} (h1 : frS lo hi μ m) (HM : IMg μ nR R) : IMg m nR R := IMg_congr (h1.2.1 0 (by decide) (by decide) (by decide) (by decide) (by decide) (by decide)) (fun b b0 b1 => h1.1 b (by omega) (by omega) (by omega)) HM
theorem c_X10_workScopes (hW : WF sh ν f s) (hG : okG nR R) (HM : IMg μ nR R) (hbd : tbd μ) (hT : μ 265 49 = 0 ∨ (μ 265 49 ≠ 0 ∧ dnT μ eFr R nR (okCell eFr)))
    (k : ∀ μ' : Nat → Nat → Int, dnT μ' eFr R nR (okCell eFr) → tbd μ' → μ' 265 49 = 1 → μ' 265 42 = 0 → μ' 265 50 = μ 265 50 → frS 52488 55688 μ μ' → Q none sh ν μ') : X mX10_workScopes 0 [(0, vR 265)] [] sh ν μ 0 0 Q := by
  have h48 : ∀ m, dnT m eFr R nR (okCell eFr) → tbd m → m 265 42 = 0 → m 265 50 = μ 265 50 → frS 52488 55688 μ m → X mX10_workScopes 48 [(0, vR 265)] [] sh ν m 0 0 Q := by
    intro m y1 y2 y3 y4 y5
    refine g_X10_workScopes_48 hW (k _ (fun x y w h hc n hn => ?_) ?_ (up_s ..) (by rw [up_k' (by decide)]; exact y3) (by rw [up_k' (by decide)]; exact y4) ⟨fun b b0 b1 b2 => by rw [up_o' b0]; exact y5.1 b b0 b1 b2, fun j j0 j1 j2 j3 j4 j5 => by rw [up_k' j4]; exact y5.2.1 j j0 j1 j2 j3 j4 j5, fun j hj => ?_⟩)
    · unfold enV enB
      rw [up_o' (show 293 ≠ 265 by decide), up_o' (show 294 ≠ 265 by decide), up_o' (show 295 ≠ 265 by decide), up_o' (show 296 ≠ 265 by decide)]
      exact y1 x y w h hc n hn
    · unfold tbd
      rw [up_o' (show 294 ≠ 265 by decide), up_o' (show 295 ≠ 265 by decide), up_o' (show 296 ≠ 265 by decide)]
      exact y2
    · rw [up_o' (show 293 ≠ 265 by decide), up_o' (show 294 ≠ 265 by decide), up_o' (show 295 ≠ 265 by decide), up_o' (show 296 ≠ 265 by decide)]
      exact y5.2.2 j hj
  refine g_X10_workScopes_0 hW ?_
  have hm0 : frS 52488 55688 μ (up μ 265 42 0) := ⟨fun b b0 _ _ => up_o' b0, fun j _ _ _ j3 _ _ => up_k' j3 _, fun j _ => by rw [up_o' (show 293 ≠ 265 by decide), up_o' (show 294 ≠ 265 by decide), up_o' (show 295 ≠ 265 by decide), up_o' (show 296 ≠ 265 by decide)]; exact ⟨rfl, rfl, rfl, rfl⟩⟩
  have hb0 : tbd (up μ 265 42 0) := by
    unfold tbd
    rw [up_o' (show 294 ≠ 265 by decide), up_o' (show 295 ≠ 265 by decide), up_o' (show 296 ≠ 265 by decide)]
    exact hbd
  have h42 : up μ 265 42 0 265 42 = 0 := up_s ..
  have h49 : up μ 265 42 0 265 49 = μ 265 49 := up_k' (by decide) _
  have h50 : up μ 265 42 0 265 50 = μ 265 50 := up_k' (by decide) _
  rcases hT with hT | ⟨hT1, hT2⟩
  · generalize up μ 265 42 0 = m0 at hm0 hb0 h42 h49 h50
    have key := loop_up 21 (fun (j : Nat) (m : Nat → Nat → Int) => 1 ≤ j ∧ dnT m eFr R nR (fun x y w h => okCell eFr x y w h ∧ h < j) ∧ tbd m ∧ frS 52488 55688 μ m ∧ m 265 49 = 0 ∧ m 265 42 = 0 ∧ m 265 50 = μ 265 50) (fun j m => X mX10_workScopes 7 [(0, vR 265), (1, vI (j : Nat))] [] sh ν m 0 0 Q) ?_ ?_ 1 m0 (by decide) ⟨Nat.le_refl _, fun x y w h hc => by have := hc.1.2.1; have := hc.2; omega, hb0, hm0, by omega, h42, h50⟩
    · exact key
    · rintro m ⟨i1, i2, i3, i4, i5, i6, i7⟩
      refine g_X10_workScopes_7 hW ⟨fun _ => h48 m (fun x y w h hc => i2 x y w h ⟨hc, by have := hc.2.2.2.1; omega⟩) i3 i6 i7 i4, fun q => absurd q (by omega)⟩
    · rintro j m hj ⟨i1, i2, i3, i4, i5, i6, i7⟩ ih
      refine g_X10_workScopes_7 hW ⟨fun q => absurd q (by omega), fun _ => ⟨fun q => absurd i5 q, fun _ => ?_⟩⟩
      have key2 := loop_up 21 (fun (i : Nat) (m' : Nat → Nat → Int) => 1 ≤ i ∧ dnT m' eFr R nR (fun x y w h => okCell eFr x y w h ∧ (h < j ∨ (h = j ∧ w < i))) ∧ tbd m' ∧ frS 52488 55688 μ m' ∧ m' 265 49 = 0 ∧ m' 265 42 = 0 ∧ m' 265 50 = μ 265 50) (fun i m' => X mX10_workScopes 22 [(0, vR 265), (1, vI (j : Nat)), (2, vI (i : Nat))] [] sh ν m' 0 0 Q) ?_ ?_ 1 m (by decide) ⟨Nat.le_refl _, fun x y w h hc => i2 x y w h ⟨hc.1, by have := hc.1.1; have := hc.2; omega⟩, i3, i4, i5, i6, i7⟩
      · exact key2
      · rintro m' ⟨a1, a2, a3, a4, a5, a6, a7⟩
        refine g_X10_workScopes_22 hW ⟨fun _ => ?_, fun q => absurd q (by omega)⟩
        rw [wi1 (by omega)]
        exact ih m' ⟨by omega, fun x y w h hc => a2 x y w h ⟨hc.1, by have := hc.1.2.2.1; have := hc.2; omega⟩, a3, a4, a5, a6, a7⟩
      · rintro i m' hi ⟨a1, a2, a3, a4, a5, a6, a7⟩ ih2
        refine g_X10_workScopes_22 hW ⟨fun q => absurd q (by omega), fun _ => ?_⟩
        have hcc : okCell eFr 0 0 i j := ⟨a1, i1, by omega, by omega, fun z => absurd z (by decide)⟩
        refine c_X10_workD hW hG (frS_g a4 HM) hcc (by rw [a6]; rfl) (fun z => absurd z (by decide)) a3 (fun x y w h => okCell eFr x y w h ∧ (h < j ∨ (h = j ∧ w < i))) (fun x y w h => okCell eFr x y w h ∧ (h < j ∨ (h = j ∧ w < i + 1))) a2 (fun _ _ _ _ q => q.1) (fun x' y' w' h' q => ?_) (fun x' y' w' h' q1 q2 q3 q4 _ _ => ⟨q1, by omega⟩) fun μ' t1 t2 t3 => ?_
        · by_cases z : h' = j ∧ w' = i
          · exact Or.inr ⟨z.2, z.1, fun z => absurd z (by decide)⟩
          · exact Or.inl ⟨q.1, by have := q.2; omega⟩
        · refine g_X10_workScopes_36 hW ?_
          rw [wi1 (by omega)]
          have hs := (plN_side (n := 0) hcc (by decide)).2 rfl
          have hs2 := (plN_b (n := 0) hcc (by decide)).2.2
          exact ih2 μ' ⟨by omega, t1, t2, frS_W a4 t3 ⟨hs, hs2⟩, by rw [t3.2.1 49 (by decide) (by decide) (by decide)]; exact a5, by rw [t3.2.1 42 (by decide) (by decide) (by decide)]; exact a6, by rw [t3.2.1 50 (by decide) (by decide) (by decide)]; exact a7⟩
  · refine g_X10_workScopes_7 hW ⟨fun q => absurd q (by decide), fun _ => ⟨fun _ => h48 _ (fun x y w h hc n hn => ?_) hb0 h42 h50 hm0, fun q => absurd q (by rw [h49]; exact hT1)⟩⟩
    unfold enV enB
    rw [up_o' (show 293 ≠ 265 by decide), up_o' (show 294 ≠ 265 by decide), up_o' (show 295 ≠ 265 by decide), up_o' (show 296 ≠ 265 by decide)]
    exact hT2 x y w h hc n hn
end TB
