/-! a chart settles a name on a cell, and all that it rests on -/
def IXt (μ : Nat → Nat → Int) (a : Nat) (B : BD) (R : GR) (nR : Nat) : Prop := chA μ a ∧ (μ a 13 = 0 → ∀ c, c < nsp a * nsp a → mk (μ (a + 13) c) ∧ μ (a + 13) c = μ (a + 14) c ∧ ∀ n, n < 8 → mb (μ (a + 14) c) n → dmC a B c ∧ rgt μ a B R nR c n)
/-- what settling leaves -/
def frSt (a : Nat) (m m' : Nat → Nat → Int) : Prop := (∀ b, ¬ (a ≤ b ∧ b ≤ a + 17) → ¬ (207 ≤ b ∧ b ≤ 210) → m' b = m b) ∧ ∀ j, j ≠ 13 → m' a j = m a j
section ST
variable {sh : List (Nat × Nat)} {ν : Nat → Nat → Option Nat} {μ : Nat → Nat → Int} {f s : Nat} {Q : xQ} {a : Nat} {B : BD} {nR : Nat} {R : GR}
theorem rgt_congr {m m' : Nat → Nat → Int} {c n : Nat} (h5 : m' (a + 15) = m (a + 15)) (h6 : m' (a + 16) = m (a + 16)) (h7 : m' (a + 17) = m (a + 17)) (H : rgt m a B R nR c n) : rgt m' a B R nR c n := by
  unfold rgt at *
  rw [h5, h6, h7]; exact H
theorem IXb_congr {m m' : Nat → Nat → Int} (h1 : m' 211 = m 211) (h2 : m' 212 = m 212) (H : IXb m B) : IXb m' B := by
  unfold IXb at *
  rw [h1, h2]; exact H
/-- behind the asking: the cells one after another -/
theorem settle_up (hW : WF sh ν f s) (hA : isChart a) (hG : okG nR R) {m0 : Nat → Nat → Int} (HX : IXg m0 nR R) (HA : chA m0 a) (HB : a = 231 → okB B ∧ IXb m0 B) {c : Nat} (hc : c < nsp a * nsp a) {n : Nat} (hn : n < 8) (hM : okA m0 a B) (hS : ∀ c', c' < nsp a * nsp a → mk (m0 (a + 14) c')) (hcl : ∀ c', c' ≤ c → cloA m0 a c' R nR) (hrg : ∀ c' n, c' < nsp a * nsp a → n < 8 → mb (m0 (a + 14) c') n → rgt m0 a B R nR c' n)
    (k : ∀ m : Nat → Nat → Int, (∀ c', c' < nsp a * nsp a → mk (m (a + 14) c') ∧ ∀ n, n < 8 → mb (m (a + 14) c') n → rgt m a B R nR c' n) → (∀ c', c' ≤ c → ∀ n, n < 8 → (mb (m (a + 14) c') n ↔ mb (m0 (a + 14) c') n ∨ mb (m0 (a + 13) c') n)) → (∀ c', c < c' → m (a + 14) c' = m0 (a + 14) c') → (∀ b, ¬ (a + 1 ≤ b ∧ b ≤ a + 10) → ¬ (207 ≤ b ∧ b ≤ 210) → ¬ (a + 14 ≤ b ∧ b ≤ a + 17) → m b = m0 b) → Q (some (vI (c * 8 + n : Nat))) sh ν m) : X mX1_settle 126 [(0, vR a), (1, vI (n : Nat)), (6, vI (c : Nat)), (7, vI 0)] [] sh ν m0 0 0 Q := by
  have hab := isChart_b hA
  have hnn := nsp_b hA
  have h40 := hG.1
  have key := loop_up (c + 1) (fun (i : Nat) (m : Nat → Nat → Int) => (∀ c', c' < nsp a * nsp a → mk (m (a + 14) c') ∧ ∀ n, n < 8 → mb (m (a + 14) c') n → rgt m a B R nR c' n) ∧ (∀ c', c' < i → ∀ n, n < 8 → (mb (m (a + 14) c') n ↔ mb (m0 (a + 14) c') n ∨ mb (m0 (a + 13) c') n)) ∧ (∀ c', i ≤ c' → m (a + 14) c' = m0 (a + 14) c') ∧ (∀ b, ¬ (a + 1 ≤ b ∧ b ≤ a + 10) → ¬ (207 ≤ b ∧ b ≤ 210) → ¬ (a + 14 ≤ b ∧ b ≤ a + 17) → m b = m0 b)) (fun i m => X mX1_settle 126 [(0, vR a), (1, vI (n : Nat)), (6, vI (c : Nat)), (7, vI (i : Nat))] [] sh ν m 0 0 Q) ?_ ?_ 0 m0 (Nat.zero_le _) ⟨fun c' hc' => ⟨hS c' hc', fun n hn z => hrg c' n hc' hn z⟩, fun c' q => absurd q (Nat.not_lt_zero c'), fun _ _ => rfl, fun _ _ _ _ => rfl⟩
  · exact key
  · rintro m ⟨u1, u2, u3, u4⟩
    refine g_X1_settle_126 hW hA ⟨fun _ => ?_, fun q => absurd q (by omega)⟩
    rw [slot_i hc hnn.2.2 hn]
    exact k m u1 (fun c' hc' => u2 c' (by omega)) (fun c' hc' => u3 c' (by omega)) u4
  · rintro i m hi ⟨u1, u2, u3, u4⟩ ih
    have hic : i < nsp a * nsp a := by omega
    have e13 : m (a + 13) = m0 (a + 13) := u4 _ (by omega) (by omega) (by omega)
    have e14 : m (a + 14) i = m0 (a + 14) i := u3 i (Nat.le_refl _)
    refine g_X1_settle_126 hW hA ⟨fun q => absurd q (by omega), fun _ => ?_⟩
    refine c_X1_settleCell (B := B) hW hA hG (IXg_congr h40 (u4 1 (by omega) (by omega) (by omega)) (fun b b0 b1 => u4 b (by omega) (by omega) (by omega)) HX) (chA_congr (fun b hb => u4 b (by omega) (by omega) (by omega)) HA) hic (fun e => ⟨(HB e).1, IXb_congr (u4 211 (by omega) (by omega) (by omega)) (u4 212 (by omega) (by omega) (by omega)) (HB e).2⟩) (by rw [e13]; exact (hM i hic).1) (u1 i hic).1 (fun n hn z => by rw [e13] at z; exact (hM i hic).2 n hn z) (fun r hr z1 z2 hh j hj hno => ?_) fun m2 y1 y2 y3 y4 y5 y6 => ?_
    · rw [e13] at z1
      rw [e14] at z2
      have ho := hG.2 r hr
      have hk := pcN_k hj
      have hn8 := pcNm_8 ho hk hj
      have hask := hcl i (by omega) (nmR R r) (nmR_i hG hr).2 z1 z2 r hr rfl hh j hj
      by_cases hN : pcN (R r) (cW a i) (cH a i) = 1
      · have ej : j = 0 := by omega
        subst ej
        have ec := pcC_one hA hic ho hh hN
        rw [ec] at hask ⊢
        refine (u1 i hic).2 _ hn8 ?_
        rw [e13, e14] at hno
        rw [e14]
        exact Classical.byContradiction fun v => hno ⟨hN, hask, v⟩
      · have hlt := pcC_lt hA hic ho hh hN hj
        refine (u1 _ (by omega)).2 _ hn8 ?_
        rw [u2 _ hlt _ hn8]
        exact Or.inr hask
    · refine g_X1_settle_139 hW hA ?_
      rw [wi1 (i := i) (by omega)]
      refine ih m2 ⟨fun c' hc' => ?_, fun c' hc' n hn => ?_, fun c' hc' => by rw [y5 c' (by omega)]; exact u3 c' (by omega), fun b b0 b1 b2 => by rw [y6 b b0 b1 b2]; exact u4 b b0 b1 b2⟩
      · by_cases e : c' = i
        · subst e
          refine ⟨y2, fun n hn z => ?_⟩
          by_cases v : mb (m (a + 14) c') n
          · exact y4 c' n hn (Or.inr v) ((u1 c' hc').2 n hn v)
          · rcases (y3 n hn).1 z with z | z
            · exact absurd z v
            · exact y1 n hn z v
        · rw [y5 c' e]
          exact ⟨(u1 c' hc').1, fun n hn z => y4 c' n hn (Or.inl e) ((u1 c' hc').2 n hn z)⟩
      · by_cases e : c' = i
        · subst e
          rw [y3 n hn, e13, e14]
        · rw [y5 c' e]; exact u2 c' (by omega) n hn
/-- the asking: the cells from this one down -/
theorem settle_down (hW : WF sh ν f s) (hA : isChart a) (hG : okG nR R) {m0 : Nat → Nat → Int} (HX : IXg m0 nR R) (HA : chA m0 a) {c : Nat} (hc : c < nsp a * nsp a) {n : Nat} (hM : okA m0 a B) (hS : ∀ c', c' < nsp a * nsp a → mk (m0 (a + 14) c'))
    (k : ∀ m : Nat → Nat → Int, okA m a B → (∀ c', c' ≤ c → cloA m a c' R nR) → monA a m0 m → (∀ c', c < c' → m (a + 13) c' = m0 (a + 13) c') → frAs a m0 m → X mX1_settle 126 [(0, vR a), (1, vI (n : Nat)), (6, vI (c : Nat)), (7, vI 0)] [] sh ν m 0 0 Q) : X mX1_settle 106 [(0, vR a), (1, vI (n : Nat)), (6, vI (c : Nat)), (7, vI (c : Nat))] [] sh ν m0 0 0 Q := by
  have hab := isChart_b hA
  have hnn := nsp_b hA
  have h40 := hG.1
  have key := loop_up (c + 1) (fun (t : Nat) (m : Nat → Nat → Int) => okA m a B ∧ (∀ c', c' ≤ c → c < c' + t → cloA m a c' R nR) ∧ monA a m0 m ∧ (∀ c', c < c' → m (a + 13) c' = m0 (a + 13) c') ∧ frAs a m0 m) (fun t m => X mX1_settle 106 [(0, vR a), (1, vI (n : Nat)), (6, vI (c : Nat)), (7, vI ((c : Int) - (t : Int)))] [] sh ν m 0 0 Q) ?_ ?_ 0 m0 (Nat.zero_le _) ⟨hM, fun c' h1 h2 => absurd h2 (by omega), fun _ _ _ _ z => z, fun _ _ => rfl, fun _ _ _ _ _ _ => rfl⟩
  · rw [show (c : Int) - ((0 : Nat) : Int) = c by omega] at key
    exact key
  · rintro m ⟨u1, u2, u3, u4, u5⟩
    exact g_X1_settle_106 hW hA ⟨fun _ => k m u1 (fun c' hc' => u2 c' hc' (by omega)) u3 u4 u5, fun q => absurd q (by omega)⟩
  · rintro t m ht ⟨u1, u2, u3, u4, u5⟩ ih
    obtain ⟨i, hi⟩ : ∃ i : Nat, (c : Int) - (t : Int) = i := ⟨c - t, by omega⟩
    have hic : i < nsp a * nsp a := by omega
    rw [hi]
    refine g_X1_settle_106 hW hA ⟨fun q => absurd q (by omega), fun _ => ?_⟩
    have e14 : m (a + 14) = m0 (a + 14) := u5 _ (by omega) (by omega) (by omega) (by omega) (by omega)
    refine c_X1_askBelow hW hA hG (IXg_congr h40 (u5 1 (by omega) (by omega) (by omega) (by omega) (by omega)) (fun b b0 b1 => u5 b (by omega) (by omega) (by omega) (by omega) (by omega)) HX) (chA_congr (fun b hb => u5 b (by omega) (by omega) (by omega) (by omega) (by omega)) HA) hic u1 (by rw [e14]; exact hS i hic) fun m2 y1 y2 y3 y4 y5 => ?_
    refine g_X1_settle_117 hW hA ?_
    rw [w32_id (x := (i : Int) + -1) (by omega) (by omega), show (i : Int) + -1 = (c : Int) - ((t + 1 : Nat) : Int) by omega]
    refine ih m2 ⟨y1, fun c' h1 h2 => ?_, fun c' hc' n hn z => y3 c' hc' n hn (u3 c' hc' n hn z), fun c' hc' => by rw [y4 c' (by omega)]; exact u4 c' hc', fun b b0 b1 b2 b3 b4 => by rw [y5 b b0 b1 b2 b3 b4]; exact u5 b b0 b1 b2 b3 b4⟩
    by_cases e : c' = i
    · rw [e]; exact y2
    · have hold := u2 c' h1 (by omega)
      have e14' : m2 (a + 14) = m (a + 14) := y5 _ (by omega) (by omega) (by omega) (by omega) (by omega)
      intro n hn z1 z2 r hr hm hh j hj
      rw [y4 c' (by omega)] at z1
      rw [e14'] at z2
      have ho := hG.2 r hr
      exact y3 _ (pcC_b hA (by omega) ho hh hj) _ (pcNm_8 ho (pcN_k hj) hj) (hold n hn z1 z2 r hr hm hh j hj)
theorem spF_w (hA : isChart a) {x y w h : Nat} (hc : okCell (evc a B) x y w h) : w32 (w32 (spF (if a = 213 then 0 else 1) (x : Int) (w : Int) * ((nsp a : Nat) : Int)) + spF (if a = 213 then 0 else 1) (y : Int) (h : Int)) = (clN a x y w h : Nat) ∧ clN a x y w h < nsp a * nsp a := by
  obtain ⟨v1, v2⟩ := ok_vsp hA hc
  have hn := nsp_b hA
  have h1 := (clN_b hA hc).1
  have h2 := (spN_b hA v1).1
  have h3 := (spN_b hA v2).1
  rw [spF_N hA v1, spF_N hA v2]
  refine ⟨?_, h1⟩
  have e4 : ((spN a x w : Nat) : Int) * ((nsp a : Nat) : Int) = ((spN a x w * nsp a : Nat) : Int) := (Int.natCast_mul _ _).symm
  have e5 : clN a x y w h = spN a x w * nsp a + spN a y h := rfl
  rw [e4, e5]
  rw [e5] at h1
  generalize spN a x w * nsp a = z at h1 ⊢
  rw [w32_id (x := (z : Int)) (by omega) (by omega), w32_id (by omega) (by omega)]
  omega
theorem c_X1_settle (hW : WF sh ν f s) (hA : isChart a) (hG : okG nR R) (HX : IXg μ nR R) (HB : a = 231 → okB B ∧ IXb μ B) (H : IXt μ a B R nR) {n x y w h : Nat} (hn : n < 8) (hc : okCell (evc a B) x y w h) (hi : a = 231 → inB B x y w h)
    (k : ∀ m : Nat → Nat → Int, IXt m a B R nR → (m (a + 15) (clN a x y w h * 8 + n) = VW (evc a B) R nR x y w h n ∧ m (a + 16) (clN a x y w h * 8 + n) = VB (evc a B) R nR x y w h n ∧ m (a + 17) (clN a x y w h * 8 + n) = VP (evc a B) R nR x y w h n) → frSt a μ m → Q (some (vI (clN a x y w h * 8 + n : Nat))) sh ν m) : X mX1_settle 0 [(0, vR a), (1, vI (n : Nat)), (2, vI (x : Nat)), (3, vI (y : Nat)), (4, vI (w : Nat)), (5, vI (h : Nat))] [] sh ν μ 0 0 Q := by
  have hab := isChart_b hA
  have hnn := nsp_b hA
  have h40 := hG.1
  obtain ⟨HA, HT⟩ := H
  obtain ⟨o1, o2, o3, o4, -⟩ := id hc
  obtain ⟨p1, p2⟩ := spF_w hA hc
  have hdm : dmC a B (clN a x y w h) := fun e => by
    obtain ⟨e1, e2, e3⟩ := clN_at hA hc
    obtain ⟨e3, e4⟩ := e3 e
    rw [e1, e2, e3, e4]; exact hi e
  have hval := fun n => cl_val (R := R) (nR := nR) (n := n) hA hG hc
  -- behind the look at what is stale
  have h28 : ∀ m0 : Nat → Nat → Int, (∀ c, c < nsp a * nsp a → mk (m0 (a + 13) c) ∧ m0 (a + 13) c = m0 (a + 14) c ∧ ∀ n, n < 8 → mb (m0 (a + 14) c) n → dmC a B c ∧ rgt m0 a B R nR c n) → m0 a 13 = 0 → (∀ b, b ≠ a → b ≠ a + 13 → b ≠ a + 14 → m0 b = μ b) → (∀ j, j ≠ 13 → m0 a j = μ a j) → X mX1_settle 28 [(0, vR a), (1, vI (n : Nat)), (2, vI (x : Nat)), (3, vI (y : Nat)), (4, vI (w : Nat)), (5, vI (h : Nat))] [] sh ν m0 0 0 Q := by
    intro m0 z1 z2 z3 z4
    obtain ⟨A1, A2, A3⟩ := id HA
    have HA0 : chA m0 a := ⟨by rw [z4 3 (by decide)]; exact A1, by rw [z4 4 (by decide)]; exact A2, fun s hs => by rw [z3 (a + 11) (by omega) (by omega) (by omega), z3 (a + 12) (by omega) (by omega) (by omega)]; exact A3 s hs⟩
    refine g_X1_settle_28 hW hA ?_
    rw [HA0.1, HA0.2.1, p1, Int.toNat_natCast]
    refine ⟨by omega, by omega, by omega, by omega, fun q => absurd q (by omega), fun _ => ⟨by omega, fun q => absurd q (by omega), fun _ => ⟨fun _ => ⟨tI p2, tI p2, tI p2, fun q => ?_, fun q => ?_⟩, fun q => absurd (by omega) q⟩⟩⟩
    · -- settled before
      have hb := (mb_test hn).1 q
      obtain ⟨y1, y2, y3⟩ := z1 _ p2
      have ebit : xor_ (m0 (a + 13) (clN a x y w h)) (xshl 1 (n : Int)) = m0 (a + 13) (clN a x y w h) := mk_ext (mk_set y1 hn) y1 fun j hj => by
        rw [mb_set hn hj]
        constructor
        · rintro (v | v)
          · exact v
          · rw [v, y2]; exact hb
        · exact Or.inl
      have emem : up m0 (a + 13) (clN a x y w h) (xor_ (m0 (a + 13) (clN a x y w h)) (xshl 1 (n : Int))) = m0 := by
        rw [ebit]
        funext b j
        unfold up
        by_cases v : b = a + 13 ∧ j = clN a x y w h
        · rw [if_pos v, v.1, v.2]
        · rw [if_neg v]
      rw [emem, slot_i p2 hnn.2.2 hn]
      obtain ⟨-, r1, r2, r3⟩ := y3 n hn hb
      obtain ⟨v1, v2, v3⟩ := hval n
      exact k m0 ⟨HA0, fun _ => z1⟩ ⟨r1.trans v1, r2.trans v2, r3.trans v3⟩ ⟨fun b b0 _ => z3 b (by omega) (by omega) (by omega), z4⟩
    · have hb : ¬ mb (m0 (a + 14) (clN a x y w h)) n := fun v => (mb_test hn).2 v q
      have q13 : ∀ b, b ≠ a + 13 → up m0 (a + 13) (clN a x y w h) (xor_ (m0 (a + 13) (clN a x y w h)) (xshl 1 (n : Int))) b = m0 b := fun b hb => up_o' hb
      have qk : ∀ c', c' ≠ clN a x y w h → up m0 (a + 13) (clN a x y w h) (xor_ (m0 (a + 13) (clN a x y w h)) (xshl 1 (n : Int))) (a + 13) c' = m0 (a + 13) c' := fun c' hc' => up_k' hc' _
      have qs : up m0 (a + 13) (clN a x y w h) (xor_ (m0 (a + 13) (clN a x y w h)) (xshl 1 (n : Int))) (a + 13) (clN a x y w h) = xor_ (m0 (a + 13) (clN a x y w h)) (xshl 1 (n : Int)) := up_s ..
      generalize up m0 (a + 13) (clN a x y w h) (xor_ (m0 (a + 13) (clN a x y w h)) (xshl 1 (n : Int))) = m1 at q13 qk qs
      have e14 : m1 (a + 14) = m0 (a + 14) := q13 _ (by omega)
      have hM1 : okA m1 a B := fun c' hc' => by
        obtain ⟨y1, y2, y3⟩ := z1 c' hc'
        by_cases e : c' = clN a x y w h
        · subst e
          rw [qs]
          refine ⟨mk_set y1 hn, fun j hj v => hdm⟩
        · rw [qk c' e]
          exact ⟨y1, fun j hj v => by rw [y2] at v; exact (y3 j hj v).1⟩
      have hS1 : ∀ c', c' < nsp a * nsp a → mk (m1 (a + 14) c') := fun c' hc' => by
        rw [e14]
        obtain ⟨y1, y2, y3⟩ := z1 c' hc'
        rw [← y2]; exact y1
      have HX1 : IXg m1 nR R := IXg_congr h40 (by rw [q13 1 (by omega), z3 1 (by omega) (by omega) (by omega)]) (fun b b0 b1 => by rw [q13 b (by omega), z3 b (by omega) (by omega) (by omega)]) HX
      have HA1 : chA m1 a := chA_congr (fun b hb => q13 b (by omega)) HA0
      refine settle_down (B := B) hW hA hG HX1 HA1 p2 hM1 hS1 fun m2 d1 d2 d3 d4 d5 => ?_
      have f14 : m2 (a + 14) = m0 (a + 14) := by rw [d5 _ (by omega) (by omega) (by omega) (by omega) (by omega)]; exact e14
      have f15 : m2 (a + 15) = m0 (a + 15) := by rw [d5 _ (by omega) (by omega) (by omega) (by omega) (by omega)]; exact q13 _ (by omega)
      have f16 : m2 (a + 16) = m0 (a + 16) := by rw [d5 _ (by omega) (by omega) (by omega) (by omega) (by omega)]; exact q13 _ (by omega)
      have f17 : m2 (a + 17) = m0 (a + 17) := by rw [d5 _ (by omega) (by omega) (by omega) (by omega) (by omega)]; exact q13 _ (by omega)
      have fb : ∀ b, b ≠ a → b ≠ a + 13 → b ≠ a + 14 → ¬ (207 ≤ b ∧ b ≤ 210) → m2 b = μ b := fun b b0 b1 b2 b3 => by rw [d5 b b1 (by omega) (by omega) (by omega) (by omega), q13 b b1, z3 b b0 b1 b2]
      have fa : ∀ j, m2 a j = m0 a j := fun j => by rw [d5 a (by omega) (by omega) (by omega) (by omega) (by omega), q13 a (by omega)]
      refine settle_up (B := B) hW hA hG (IXg_congr h40 (fb 1 (by omega) (by omega) (by omega) (by omega)) (fun b b0 b1 => fb b (by omega) (by omega) (by omega) (by omega)) HX) (chA_congr (fun b hb => d5 b (by omega) (by omega) (by omega) (by omega) (by omega)) HA1) (fun e => ⟨(HB e).1, IXb_congr (fb 211 (by omega) (by omega) (by omega) (by omega)) (fb 212 (by omega) (by omega) (by omega) (by omega)) (HB e).2⟩) p2 hn d1 (fun c' hc' => by rw [f14, ← e14]; exact hS1 c' hc') d2 (fun c' j hc' hj v => ?_) fun m3 s1 s2 s3 s4 => ?_
      · rw [f14] at v
        exact rgt_congr f15 f16 f17 ((z1 c' hc').2.2 j hj v).2
      · have g13 : m3 (a + 13) = m2 (a + 13) := s4 _ (by omega) (by omega) (by omega)
        have hall : ∀ c', c' < nsp a * nsp a → m3 (a + 13) c' = m3 (a + 14) c' := fun c' hc' => by
          by_cases e : c' ≤ clN a x y w h
          · refine mk_ext (by rw [g13]; exact (d1 c' hc').1) (s1 c' hc').1 fun j hj => ?_
            rw [g13, s2 c' e j hj, f14]
            refine ⟨Or.inr, fun v => v.elim (fun v => ?_) id⟩
            obtain ⟨y1, y2, y3⟩ := z1 c' hc'
            refine d3 c' hc' j hj ?_
            by_cases e2 : c' = clN a x y w h
            · subst e2
              rw [qs, mb_set hn hj, y2]; exact Or.inl v
            · rw [qk c' e2, y2]; exact v
          · rw [g13, s3 c' (by omega), f14, d4 c' (by omega), qk c' (by omega)]
            exact (z1 c' hc').2.1
        have hbit : mb (m3 (a + 14) (clN a x y w h)) n := by
          rw [← hall _ p2, g13]
          refine d3 _ p2 n hn ?_
          rw [qs, mb_set hn hn]; exact Or.inr rfl
        obtain ⟨r1, r2, r3⟩ := (s1 _ p2).2 n hn hbit
        obtain ⟨v1, v2, v3⟩ := hval n
        refine k m3 ⟨chA_congr (fun b hb => s4 b (by omega) (by omega) (by omega)) (chA_congr (fun b hb => d5 b (by omega) (by omega) (by omega) (by omega) (by omega)) HA1), fun _ c' hc' => ⟨?_, hall c' hc', fun j hj v => ⟨?_, (s1 c' hc').2 j hj v⟩⟩⟩ ⟨r1.trans v1, r2.trans v2, r3.trans v3⟩ ⟨fun b b0 b1 => ?_, fun j hj => ?_⟩
        · rw [g13]; exact (d1 c' hc').1
        · rw [← hall c' hc', g13] at v
          exact (d1 c' hc').2 j hj v
        · rw [s4 b (by omega) b1 (by omega)]; exact fb b (by omega) (by omega) (by omega) b1
        · rw [s4 a (by omega) (by omega) (by omega), fa j]; exact z4 j hj
  refine g_X1_settle_0 hW hA ⟨fun q => h28 μ (HT q) q (fun _ _ _ _ => rfl) fun _ _ => rfl, fun q => ⟨by omega, by omega, ?_⟩⟩
  refine h28 _ (fun c hc => ?_) (up_s ..) (fun b b0 b1 b2 => ?_) fun j hj => ?_
  · have e3 : up (filA (filA μ (a + 13) 0 (nsp a * nsp a) 0) (a + 14) 0 (nsp a * nsp a) 0) a 13 0 (a + 13) c = 0 := by
      rw [up_a' (by omega), filA_out (by omega), filA_in (Nat.zero_le _) hc]
    have e4 : up (filA (filA μ (a + 13) 0 (nsp a * nsp a) 0) (a + 14) 0 (nsp a * nsp a) 0) a 13 0 (a + 14) c = 0 := by
      rw [up_a' (by omega), filA_in (Nat.zero_le _) hc]
    rw [e3, e4]
    exact ⟨mk_0, rfl, fun j _ v => absurd v (mb_0 j)⟩
  · funext j
    rw [up_a' b0, filA_out b2, filA_out b1]
  · rw [up_k' hj, filA_out (by omega), filA_out (by omega)]
end ST
