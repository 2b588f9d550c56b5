/-! the knot of the class finds the endless names -/
def clo (L : Nat → Nat → Int) (G : Nat → Prop) (t n : Nat) : Prop := ∃ s m, s ≤ t ∧ wlk L s n m ∧ G m
def G8 (L : Nat → Nat → Int) (b : Nat → Int) (m : Nat) : Prop := b m = -10 ∨ ∃ q, wlk L 8 m q ∧ madeP L b q
section CL
variable {L : Nat → Nat → Int} {b : Nat → Int} {G : Nat → Prop} {n m t : Nat}
theorem clo_0 : clo L G 0 n ↔ G n := by
  constructor
  · rintro ⟨s, m, hs, hw, hg⟩
    have : s = 0 := by omega
    subst this
    have e : n = m := hw
    rw [e]; exact hg
  · exact fun h => ⟨0, n, Nat.le_refl _, rfl, h⟩
theorem clo_succ : clo L G (t + 1) n ↔ clo L G t n ∨ ∃ k, k < 8 ∧ 0 < L n k ∧ clo L G t k := by
  constructor
  · rintro ⟨s, m, hs, hw, hg⟩
    cases s with
    | zero => exact Or.inl ⟨0, m, by omega, hw, hg⟩
    | succ s =>
      obtain ⟨k, hk, hl, hw⟩ := hw
      exact Or.inr ⟨k, hk, hl, s, m, by omega, hw, hg⟩
  · rintro (⟨s, m, hs, hw, hg⟩ | ⟨k, hk, hl, s, m, hs, hw, hg⟩)
    · exact ⟨s, m, by omega, hw, hg⟩
    · exact ⟨s + 1, m, by omega, ⟨k, hk, hl, hw⟩, hg⟩
theorem wlk_lt (hn : n < 8) (h : wlk L t n m) : m < 8 := by
  cases t with
  | zero => have e : n = m := h; omega
  | succ t =>
    obtain ⟨f, -, ft, fs⟩ := wlk_fun h
    rw [← ft]; exact (fs t (by omega)).1
theorem wlk_rep {c : Nat} (h : wlk L c m m) : ∀ i, wlk L (c * i) m m := by
  intro i
  induction i with
  | zero => exact rfl
  | succ i ih =>
    have := wlk_add ih h
    rw [show c * i + c = c * (i + 1) by rw [Nat.mul_succ]] at this
    exact this
theorem wlk_cut {c : Nat} (h : wlk L (c + 1) m m) : ∃ q u, wlk L 8 m q ∧ wlk L u q m := by
  have h8 := wlk_rep h 8
  obtain ⟨f, f0, ft, fs⟩ := wlk_fun h8
  have h1 := wlk_of (L := L) (f := f) (s := 0) (c := 8) fun k _ hk => fs k (by omega)
  have h2 := wlk_of (L := L) (f := f) (s := 8) (c := (c + 1) * 8 - 8) fun k _ hk => fs k (by omega)
  rw [f0, Nat.zero_add] at h1
  rw [show 8 + ((c + 1) * 8 - 8) = (c + 1) * 8 by omega, ft] at h2
  exact ⟨_, _, h1, h2⟩
theorem clo_end (hn : n < 8) : clo L (G8 L b) 8 n ↔ endP L b n := by
  constructor
  · rintro ⟨s, m, -, hw, hg⟩
    have hm := wlk_lt hn hw
    rcases hg with hg | ⟨q, h1, h2⟩
    · exact ⟨s, m, hw, Or.inl hg⟩
    · exact end_back hw (end_8 hm h1 h2)
  · rintro ⟨t, m, hw, hg⟩
    obtain ⟨s, hs, hw2⟩ := wlk_short hn t hw
    refine ⟨s, m, by omega, hw2, ?_⟩
    rcases hg with hg | ⟨h1, c, h2⟩
    · exact Or.inl hg
    · obtain ⟨q, u, h3, h4⟩ := wlk_cut h2
      exact Or.inr ⟨q, h3, made_back h4 h1⟩
theorem clo_made (hn : n < 8) : clo L (fun m => b m ≠ 0) 8 n ↔ madeP L b n := by
  constructor
  · rintro ⟨s, m, -, hw, hg⟩; exact ⟨s, m, hw, hg⟩
  · intro h
    obtain ⟨s, m, hs, hw, hg⟩ := made_mpP hn h
    exact ⟨s, m, hs, hw, hg⟩
end CL
theorem cntT_b (T : TT) (t n k : Nat) : 0 ≤ cntT T t n k ∧ cntT T t n k ≤ t := by
  induction t with
  | zero => exact ⟨Int.le_refl 0, Int.le_refl 0⟩
  | succ t ih =>
    show 0 ≤ cntT T t n k + (if _ then (1 : Int) else 0) ∧ cntT T t n k + (if _ then (1 : Int) else 0) ≤ _
    split <;> omega
theorem cntT_pos (T : TT) (t n k : Nat) : 0 < cntT T t n k ↔ ∃ i, i < t ∧ (T i).1 = n ∧ (T i).2.2.1 = k := by
  induction t with
  | zero => exact ⟨fun q => absurd q (Int.lt_irrefl 0), fun ⟨i, q, _⟩ => absurd q (Nat.not_lt_zero i)⟩
  | succ t ih =>
    have h0 := (cntT_b T t n k).1
    have e : cntT T (t + 1) n k = cntT T t n k + if (T t).1 = n ∧ (T t).2.2.1 = k then 1 else 0 := rfl
    rw [e]
    by_cases q : (T t).1 = n ∧ (T t).2.2.1 = k
    · rw [if_pos q]; exact ⟨fun _ => ⟨t, Nat.lt_succ_self t, q⟩, fun _ => by omega⟩
    · rw [if_neg q]
      constructor
      · intro z
        obtain ⟨i, h1, h2⟩ := ih.1 (by omega)
        exact ⟨i, by omega, h2⟩
      · rintro ⟨i, h1, h2⟩
        by_cases z : i = t
        · rw [z] at h2; exact absurd h2 q
        · have := ih.2 ⟨i, by omega, h2⟩; omega
section KE
variable {sh : List (Nat × Nat)} {ν : Nat → Nat → Option Nat} {μ : Nat → Nat → Int} {f s : Nat} {Q : xQ} {p nt : Nat} {D : KD} {nR : Nat} {T : TT} {L : Nat → Nat → Int} {b : Nat → Int}
theorem lK_pos (hT : okTT D nR nt T) (n : Nat) {k : Nat} (hk : k < 8) : 0 < lK D nR n k ↔ ∃ i, i < nt ∧ (T i).1 = n ∧ (T i).2.2.1 = k := by
  rw [← hT.2.2.2 n k hk]; exact cntT_pos T nt n k
theorem bK_ne (hD : okKD D nR) (n : Nat) : ∀ r, r ≤ nR → (bK D r n ≠ 0 ↔ ∃ r', r' < r ∧ kn D r' = n ∧ kG D r') := by
  intro r
  induction r with
  | zero => exact fun _ => ⟨fun q => absurd rfl q, fun ⟨r', q, _⟩ => absurd q (Nat.not_lt_zero r')⟩
  | succ r ih =>
    intro hr
    have e : bK D (r + 1) n = wplus (bK D r n) (cI (kn D r = n ∧ kG D r) (kW D r) 0) := rfl
    have ok1 := bK_ok hD n r (by omega)
    rw [e]
    by_cases q : kn D r = n ∧ kG D r
    · obtain ⟨ok2, ne2, -⟩ := (hD.2 r (by omega)).2.1 q.2
      rw [cI_t q, wplus_ne ok1 ok2]
      exact ⟨fun _ => ⟨r, Nat.lt_succ_self r, q⟩, fun _ => Or.inr ne2⟩
    · rw [cI_f q, wplus_0 ok1, ih (by omega)]
      constructor
      · rintro ⟨r', h1, h2⟩; exact ⟨r', by omega, h2⟩
      · rintro ⟨r', h1, h2⟩
        by_cases z : r' = r
        · rw [z] at h2; exact absurd h2 q
        · exact ⟨r', by omega, h2⟩
/-- the ties in memory, by the leads that they make -/
theorem c_X4_tiedTo (hW : WF sh ν f s) (hp : isKnot p) (hM : tieM μ p nt T) (h40 : nt ≤ 40) (hT8 : ∀ t, t < nt → (T t).1 < 8 ∧ (T t).2.2.1 < 8) (hL : ∀ n k, k < 8 → (0 < L n k ↔ ∃ i, i < nt ∧ (T i).1 = n ∧ (T i).2.2.1 = k)) {x : Int}
    (k : ∀ v : Int, mk v → (∀ n, n < 8 → (mb v n ↔ ∃ k, k < 8 ∧ 0 < L n k ∧ mb x k)) → Q (some (vI v)) sh ν μ) : X mX4_tiedTo 0 [(0, vR p), (1, vI x)] [] sh ν μ 0 0 Q := by
  obtain ⟨m1, m2⟩ := hM
  refine g_X4_tiedTo_0 hW hp ?_
  have key := loop_up nt (fun (i : Nat) (v : Int) => mk v ∧ ∀ n, n < 8 → (mb v n ↔ ∃ t, t < i ∧ (T t).1 = n ∧ mb x (T t).2.2.1)) (fun i v => X mX4_tiedTo 4 [(0, vR p), (1, vI x), (2, vI v), (3, vI (i : Nat))] [] sh ν μ 0 0 Q) ?_ ?_ 0 (0 : Int) (Nat.zero_le _) ⟨mk_0, fun n _ => ⟨fun q => absurd q (mb_0 n), fun ⟨t, q, _⟩ => absurd q (Nat.not_lt_zero t)⟩⟩
  · exact key
  · rintro v ⟨h1, h2⟩
    refine g_X4_tiedTo_4 hW hp ?_
    rw [m1]
    refine ⟨fun _ => k v h1 fun n hn => ?_, fun q => absurd q (by omega)⟩
    rw [h2 n hn]
    constructor
    · rintro ⟨t, ht, a1, a2⟩
      exact ⟨(T t).2.2.1, (hT8 t ht).2, (hL n _ (hT8 t ht).2).2 ⟨t, ht, a1, rfl⟩, a2⟩
    · rintro ⟨k, hk, a1, a2⟩
      obtain ⟨t, ht, b1, b2⟩ := (hL n k hk).1 a1
      exact ⟨t, ht, b1, by rw [b2]; exact a2⟩
  · rintro i v hi ⟨h1, h2⟩ ih
    obtain ⟨a1, a2, a3, a4⟩ := m2 i hi
    obtain ⟨b1, b2⟩ := hT8 i hi
    refine g_X4_tiedTo_4 hW hp ?_
    rw [m1, Int.toNat_natCast, a1, a3]
    refine ⟨fun q => absurd q (by omega), fun _ => ⟨by omega, fun q => ?_, fun q => ⟨by omega, ?_⟩⟩⟩
    · have hq : ¬ mb x (T i).2.2.1 := fun z => (mb_test b2).2 z q
      refine g_X4_tiedTo_36 hW hp ?_
      rw [wi1 (by omega)]
      refine ih v ⟨h1, fun n hn => ?_⟩
      rw [h2 n hn]
      constructor
      · rintro ⟨t, ht, c⟩; exact ⟨t, by omega, c⟩
      · rintro ⟨t, ht, c⟩
        by_cases e : t = i
        · rw [e] at c; exact absurd c.2 hq
        · exact ⟨t, by omega, c⟩
    · have hq : mb x (T i).2.2.1 := (mb_test b2).1 q
      refine g_X4_tiedTo_36 hW hp ?_
      rw [wi1 (by omega)]
      refine ih _ ⟨mk_set h1 b1, fun n hn => ?_⟩
      rw [mb_set b1 hn, h2 n hn]
      constructor
      · rintro (⟨t, ht, c⟩ | c)
        · exact ⟨t, by omega, c⟩
        · exact ⟨i, by omega, c.symm, hq⟩
      · rintro ⟨t, ht, c⟩
        by_cases e : t = i
        · rw [e] at c; exact Or.inr c.1.symm
        · exact Or.inl ⟨t, by omega, c⟩
theorem c_X4_findEndless (hW : WF sh ν f s) (hp : isKnot p) (hM : tieM μ p nt T) (h40 : nt ≤ 40) (hT8 : ∀ t, t < nt → (T t).1 < 8 ∧ (T t).2.2.1 < 8) (hL : ∀ n k, k < 8 → (0 < L n k ↔ ∃ i, i < nt ∧ (T i).1 = n ∧ (T i).2.2.1 = k)) (hw : ∀ n, n < 8 → (0 ≤ μ (p + 4) n ↔ b n ≠ 0)) (he0 : mk (μ p 10)) (he : ∀ n, n < 8 → (mb (μ p 10) n ↔ b n = -10))
    (k : ∀ v : Int, mk v → (∀ n, n < 8 → (mb v n ↔ endP L b n)) → Q none sh ν (up μ p 10 v)) : X mX4_findEndless 0 [(0, vR p)] [] sh ν μ 0 0 Q := by
  have hMu : ∀ v, tieM (up μ p 10 v) p nt T := fun v => by
    unfold tieM
    rw [up_k' (show (9 : Nat) ≠ 10 by decide), up_o' (show p + 6 ≠ p by omega), up_o' (show p + 7 ≠ p by omega), up_o' (show p + 8 ≠ p by omega), up_o' (show p + 9 ≠ p by omega)]
    exact hM
  refine g_X4_findEndless_0 hW hp ?_
  -- the last rounds
  have h89 : ∀ e0 : Int, mk e0 → (∀ n, n < 8 → (mb e0 n ↔ G8 L b n)) → X mX4_findEndless 89 [(0, vR p), (3, vI 0)] [] sh ν (up μ p 10 e0) 0 0 Q := by
    intro e0 z1 z2
    have key := loop_up 8 (fun (i : Nat) (v : Int) => mk v ∧ ∀ n, n < 8 → (mb v n ↔ clo L (G8 L b) i n)) (fun i v => X mX4_findEndless 89 [(0, vR p), (3, vI (i : Nat))] [] sh ν (up μ p 10 v) 0 0 Q) ?_ ?_ 0 e0 (Nat.zero_le _) ⟨z1, fun n hn => by rw [z2 n hn, clo_0]⟩
    · exact key
    · rintro v ⟨h1, h2⟩
      refine g_X4_findEndless_89 hW hp ⟨fun _ => k v h1 fun n hn => by rw [h2 n hn]; exact clo_end hn, fun q => absurd q (by omega)⟩
    · rintro i v hi ⟨h1, h2⟩ ih
      refine g_X4_findEndless_89 hW hp ?_
      rw [up_s]
      refine ⟨fun q => absurd q (by omega), fun _ => ?_⟩
      refine c_X4_tiedTo hW hp (hMu v) h40 hT8 hL fun y y1 y2 => ?_
      refine g_X4_findEndless_108 hW hp hp ?_
      have e1 : up (up μ p 10 v) p 10 (xor_ v y) = up μ p 10 (xor_ v y) := by
        funext a j
        unfold up
        by_cases q : a = p ∧ j = 10
        · rw [if_pos q, if_pos q]
        · rw [if_neg q, if_neg q, if_neg q]
      rw [wi1 (by omega), e1]
      refine ih _ ⟨mk_or h1 y1, fun n hn => ?_⟩
      rw [mb_or, h2 n hn, y2 n hn, clo_succ]
      refine or_congr Iff.rfl ⟨?_, ?_⟩
      · rintro ⟨k, hk, a1, a2⟩; exact ⟨k, hk, a1, (h2 k hk).1 a2⟩
      · rintro ⟨k, hk, a1, a2⟩; exact ⟨k, hk, a1, (h2 k hk).2 a2⟩
  -- eight ties in a row
  have h59 : ∀ c0 : Int, mk c0 → (∀ n, n < 8 → (mb c0 n ↔ madeP L b n)) → X mX4_findEndless 59 [(0, vR p), (2, vI c0), (3, vI 0)] [] sh ν μ 0 0 Q := by
    intro c0 z1 z2
    have key := loop_up 8 (fun (i : Nat) (v : Int) => mk v ∧ ∀ n, n < 8 → (mb v n ↔ ∃ q, wlk L i n q ∧ madeP L b q)) (fun i v => X mX4_findEndless 59 [(0, vR p), (2, vI v), (3, vI (i : Nat))] [] sh ν μ 0 0 Q) ?_ ?_ 0 c0 (Nat.zero_le _) ⟨z1, fun n hn => by
      rw [z2 n hn]
      exact ⟨fun q => ⟨n, rfl, q⟩, fun ⟨q, h1, h2⟩ => by have e : n = q := h1; rw [e]; exact h2⟩⟩
    · exact key
    · rintro v ⟨h1, h2⟩
      refine g_X4_findEndless_59 hW hp ⟨fun _ => h89 _ (mk_or he0 h1) fun n hn => ?_, fun q => absurd q (by omega)⟩
      rw [mb_or, he n hn, h2 n hn]; exact Iff.rfl
    · rintro i v hi ⟨h1, h2⟩ ih
      refine g_X4_findEndless_59 hW hp ⟨fun q => absurd q (by omega), fun _ => ?_⟩
      refine c_X4_tiedTo hW hp hM h40 hT8 hL fun y y1 y2 => ?_
      refine g_X4_findEndless_70 hW hp ?_
      rw [wi1 (by omega)]
      refine ih y ⟨y1, fun n hn => ?_⟩
      rw [y2 n hn]
      constructor
      · rintro ⟨k, hk, a1, a2⟩
        obtain ⟨q, b1, b2⟩ := (h2 k hk).1 a2
        exact ⟨q, ⟨k, hk, a1, b1⟩, b2⟩
      · rintro ⟨q, ⟨k, hk, a1, b1⟩, b2⟩
        exact ⟨k, hk, a1, (h2 k hk).2 ⟨q, b1, b2⟩⟩
  have h35 : ∀ a0 : Int, mk a0 → (∀ n, n < 8 → (mb a0 n ↔ b n ≠ 0)) → X mX4_findEndless 35 [(0, vR p), (1, vI a0), (2, vI 0)] [] sh ν μ 0 0 Q := by
    intro a0 z1 z2
    have key := loop_up 8 (fun (i : Nat) (v : Int) => mk v ∧ ∀ n, n < 8 → (mb v n ↔ clo L (fun m => b m ≠ 0) i n)) (fun i v => X mX4_findEndless 35 [(0, vR p), (1, vI v), (2, vI (i : Nat))] [] sh ν μ 0 0 Q) ?_ ?_ 0 a0 (Nat.zero_le _) ⟨z1, fun n hn => by rw [z2 n hn, clo_0]⟩
    · exact key
    · rintro v ⟨h1, h2⟩
      refine g_X4_findEndless_35 hW hp ⟨fun _ => h59 v h1 fun n hn => by rw [h2 n hn]; exact clo_made hn, fun q => absurd q (by omega)⟩
    · rintro i v hi ⟨h1, h2⟩ ih
      refine g_X4_findEndless_35 hW hp ⟨fun q => absurd q (by omega), fun _ => ?_⟩
      refine c_X4_tiedTo hW hp hM h40 hT8 hL fun y y1 y2 => ?_
      refine g_X4_findEndless_47 hW hp ?_
      rw [wi1 (by omega)]
      refine ih _ ⟨mk_or h1 y1, fun n hn => ?_⟩
      rw [mb_or, h2 n hn, y2 n hn, clo_succ]
      refine or_congr Iff.rfl ⟨?_, ?_⟩
      · rintro ⟨k, hk, a1, a2⟩; exact ⟨k, hk, a1, (h2 k hk).1 a2⟩
      · rintro ⟨k, hk, a1, a2⟩; exact ⟨k, hk, a1, (h2 k hk).2 a2⟩
  have key := loop_up 8 (fun (i : Nat) (v : Int) => mk v ∧ ∀ n, n < 8 → (mb v n ↔ n < i ∧ b n ≠ 0)) (fun i v => X mX4_findEndless 4 [(0, vR p), (1, vI v), (2, vI (i : Nat))] [] sh ν μ 0 0 Q) ?_ ?_ 0 (0 : Int) (Nat.zero_le _) ⟨mk_0, fun n _ => ⟨fun q => absurd q (mb_0 n), fun q => absurd q.1 (Nat.not_lt_zero n)⟩⟩
  · exact key
  · rintro v ⟨h1, h2⟩
    refine g_X4_findEndless_4 hW hp ⟨fun _ => h35 v h1 fun n hn => ?_, fun q => absurd q (by omega)⟩
    rw [h2 n hn]; exact ⟨fun q => q.2, fun q => ⟨hn, q⟩⟩
  · rintro i v hi ⟨h1, h2⟩ ih
    refine g_X4_findEndless_4 hW hp ⟨fun q => absurd q (by omega), fun _ => ⟨by omega, fun q => ?_, fun q => ?_⟩⟩
    · rw [Int.toNat_natCast] at q
      have hb : ¬ b i ≠ 0 := fun z => absurd ((hw i hi).2 z) (by omega)
      refine g_X4_findEndless_27 hW hp ?_
      rw [wi1 (by omega)]
      refine ih v ⟨h1, fun n hn => ?_⟩
      rw [h2 n hn]
      constructor
      · exact fun z => ⟨by omega, z.2⟩
      · intro z
        by_cases e : n = i
        · rw [e] at z; exact absurd z.2 hb
        · exact ⟨by omega, z.2⟩
    · rw [Int.toNat_natCast] at q
      have hb : b i ≠ 0 := (hw i hi).1 q
      refine g_X4_findEndless_27 hW hp ?_
      rw [wi1 (by omega)]
      refine ih _ ⟨mk_set h1 hi, fun n hn => ?_⟩
      rw [mb_set hi hn, h2 n hn]
      constructor
      · rintro (z | z)
        · exact ⟨by omega, z.2⟩
        · exact ⟨by omega, z ▸ hb⟩
      · intro z
        by_cases e : n = i
        · exact Or.inr e
        · exact Or.inl ⟨by omega, z.2⟩
end KE
