/-! THE KNOT: names on one cell, tied by rules that keep it whole. Walks, circles, the solution. -/
def wlk (L : Nat → Nat → Int) : Nat → Nat → Nat → Prop
  | 0, n, m => n = m
  | t + 1, n, m => ∃ k, k < 8 ∧ 0 < L n k ∧ wlk L t k m
def madeP (L : Nat → Nat → Int) (b : Nat → Int) (n : Nat) : Prop := ∃ t m, wlk L t n m ∧ b m ≠ 0
def endP (L : Nat → Nat → Int) (b : Nat → Int) (n : Nat) : Prop := ∃ t m, wlk L t n m ∧ (b m = -10 ∨ (madeP L b m ∧ ∃ c, wlk L (c + 1) m m))
def wsum (a : Int) (g : Nat → Int) : Nat → Int
  | 0 => a
  | k + 1 => wplus (wsum a g k) (g k)
def wEq (L : Nat → Nat → Int) (b U : Nat → Int) : Prop := ∀ n, n < 8 → (endP L b n → U n = -10) ∧ (¬ madeP L b n → U n = 0) ∧ (¬ endP L b n → U n = wsum (b n) (fun k => wmult (L n k) (U k)) 8)
def wDj (L : Nat → Nat → Int) (b : Nat → Int) : Nat → Nat → Int
  | 0 => b
  | t + 1 => fun n => wsum (b n) (fun k => wmult (L n k) (wDj L b t k)) 8
noncomputable def wS (L : Nat → Nat → Int) (b : Nat → Int) (n : Nat) : Int := cI (endP L b n) (-10) (wDj L b 8 n)
theorem wOK_0 : wOK 0 := Or.inr ⟨by omega, by omega⟩
theorem wOK_plus {a b : Int} (ha : wOK a) (hb : wOK b) : wOK (wplus a b) := by
  unfold wOK wplus at *
  split <;> omega
theorem wOK_mult {a b : Int} (ha : wOK a) (hb : wOK b) : wOK (wmult a b) := by
  unfold wmult
  split
  · exact wOK_0
  · split
    · exact Or.inl rfl
    · refine Or.inr ⟨?_, by omega⟩
      have : 0 ≤ a * b := Int.mul_nonneg (by omega) (by omega)
      omega
theorem wplus_0 {a : Int} (ha : wOK a) : wplus a 0 = a := by
  unfold wOK at ha
  unfold wplus
  split <;> omega
theorem wmult_0l (x : Int) : wmult 0 x = 0 := if_pos (Or.inl rfl)
theorem wmult_0r (x : Int) : wmult x 0 = 0 := if_pos (Or.inr rfl)
theorem wsum_ok {a : Int} {g : Nat → Int} {n : Nat} (ha : wOK a) (hg : ∀ k, k < n → wOK (g k)) : wOK (wsum a g n) := by
  induction n with
  | zero => exact ha
  | succ n ih => exact wOK_plus (ih fun k hk => hg k (by omega)) (hg n (by omega))
theorem wsum_congr {a : Int} {g g' : Nat → Int} {n : Nat} (h : ∀ k, k < n → g k = g' k) : wsum a g n = wsum a g' n := by
  induction n with
  | zero => rfl
  | succ n ih => show wplus (wsum a g n) (g n) = wplus (wsum a g' n) (g' n); rw [ih fun k hk => h k (by omega), h n (by omega)]
theorem wsum_0 {a : Int} {g : Nat → Int} {n : Nat} (ha : wOK a) (h : ∀ k, k < n → g k = 0) : wsum a g n = a := by
  induction n with
  | zero => rfl
  | succ n ih => show wplus (wsum a g n) (g n) = a; rw [ih fun k hk => h k (by omega), h n (by omega), wplus_0 ha]
theorem wsum_ne {a : Int} {g g' : Nat → Int} {n : Nat} (h : wsum a g n ≠ wsum a g' n) : ∃ k, k < n ∧ g k ≠ g' k := by
  refine Classical.byContradiction fun hc => h (wsum_congr fun k hk => ?_)
  exact Classical.byContradiction fun q => hc ⟨k, hk, q⟩
section WK
variable {L : Nat → Nat → Int} {b U U' : Nat → Int} {n m q : Nat}
theorem wlk_add {s t : Nat} (h1 : wlk L s n q) (h2 : wlk L t q m) : wlk L (s + t) n m := by
  induction s generalizing n with
  | zero => rw [show n = q from h1, Nat.zero_add]; exact h2
  | succ s ih =>
    obtain ⟨k, hk, hl, hw⟩ := h1
    rw [show s + 1 + t = (s + t) + 1 by omega]
    exact ⟨k, hk, hl, ih hw⟩
theorem wlk_1 (hm : m < 8) (h : 0 < L n m) : wlk L 1 n m := ⟨m, hm, h, rfl⟩
theorem wlk_fun {t : Nat} (h : wlk L t n m) : ∃ f : Nat → Nat, f 0 = n ∧ f t = m ∧ ∀ i, i < t → f (i + 1) < 8 ∧ 0 < L (f i) (f (i + 1)) := by
  induction t generalizing n with
  | zero => exact ⟨fun _ => n, rfl, h, fun i hi => absurd hi (Nat.not_lt_zero i)⟩
  | succ t ih =>
    obtain ⟨k, hk, hl, hw⟩ := h
    obtain ⟨f, f0, ft, fs⟩ := ih hw
    refine ⟨fun i => if i = 0 then n else f (i - 1), rfl, ?_, fun i hi => ?_⟩
    · show (if t + 1 = 0 then n else f (t + 1 - 1)) = m
      rw [if_neg (by omega), show t + 1 - 1 = t by omega]; exact ft
    · show (if i + 1 = 0 then n else f (i + 1 - 1)) < 8 ∧ 0 < L (if i = 0 then n else f (i - 1)) (if i + 1 = 0 then n else f (i + 1 - 1))
      rw [if_neg (show i + 1 ≠ 0 by omega), show i + 1 - 1 = i by omega]
      by_cases e : i = 0
      · subst e
        rw [if_pos rfl, f0]; exact ⟨hk, hl⟩
      · rw [if_neg e]
        have := fs (i - 1) (by omega)
        rw [show i - 1 + 1 = i by omega] at this
        exact this
theorem wlk_of {f : Nat → Nat} {s c : Nat} (h : ∀ i, s ≤ i → i < s + c → f (i + 1) < 8 ∧ 0 < L (f i) (f (i + 1))) : wlk L c (f s) (f (s + c)) := by
  induction c generalizing s with
  | zero => rfl
  | succ c ih =>
    obtain ⟨h1, h2⟩ := h s (Nat.le_refl _) (by omega)
    refine ⟨f (s + 1), h1, h2, ?_⟩
    have := ih (s := s + 1) fun i hi hi2 => h i (by omega) (by omega)
    rw [show s + 1 + c = s + (c + 1) by omega] at this
    exact this
theorem pigeon : ∀ (N : Nat) (f : Nat → Nat), (∀ i, i ≤ N → f i < N) → ∃ i j, i < j ∧ j ≤ N ∧ f i = f j := by
  intro N
  induction N with
  | zero => intro f h; exact absurd (h 0 (Nat.le_refl _)) (Nat.not_lt_zero _)
  | succ N ih =>
    intro f h
    by_cases hc : ∃ i, i ≤ N ∧ f i = f (N + 1)
    · obtain ⟨i, hi, e⟩ := hc
      exact ⟨i, N + 1, by omega, Nat.le_refl _, e⟩
    · have hne : ∀ i, i ≤ N → f i ≠ f (N + 1) := fun i hi e => hc ⟨i, hi, e⟩
      have hl := h (N + 1) (Nat.le_refl _)
      obtain ⟨i, j, hij, hj, e⟩ := ih (fun i => if f i = N then f (N + 1) else f i) fun i hi => by
        have h1 := h i (by omega)
        have h2 := hne i hi
        show (if f i = N then f (N + 1) else f i) < N
        by_cases q : f i = N
        · rw [if_pos q]; omega
        · rw [if_neg q]; omega
      have h1 := hne i (by omega)
      have h2 := hne j (by omega)
      refine ⟨i, j, hij, by omega, ?_⟩
      by_cases q1 : f i = N
      · by_cases q2 : f j = N
        · omega
        · have e' : (if f i = N then f (N + 1) else f i) = (if f j = N then f (N + 1) else f j) := e
          rw [if_pos q1, if_neg q2] at e'; omega
      · by_cases q2 : f j = N
        · have e' : (if f i = N then f (N + 1) else f i) = (if f j = N then f (N + 1) else f j) := e
          rw [if_neg q1, if_pos q2] at e'; omega
        · have e' : (if f i = N then f (N + 1) else f i) = (if f j = N then f (N + 1) else f j) := e
          rw [if_neg q1, if_neg q2] at e'; exact e'
theorem wlk_circle (hn : n < 8) (h : wlk L 8 n m) : ∃ q s t c, s + (c + 1) + t = 8 ∧ wlk L s n q ∧ wlk L (c + 1) q q ∧ wlk L t q m := by
  obtain ⟨f, f0, f8, fs⟩ := wlk_fun h
  obtain ⟨i, j, hij, hj, e⟩ := pigeon 8 f fun i hi => by
    by_cases q : i = 0
    · rw [q, f0]; exact hn
    · have := (fs (i - 1) (by omega)).1
      rw [show i - 1 + 1 = i by omega] at this
      exact this
  refine ⟨f i, i, 8 - j, j - i - 1, by omega, ?_, ?_, ?_⟩
  · have := wlk_of (L := L) (f := f) (s := 0) (c := i) fun k _ hk => fs k (by omega)
    rw [f0, Nat.zero_add] at this
    exact this
  · have := wlk_of (L := L) (f := f) (s := i) (c := j - i - 1 + 1) fun k _ hk => fs k (by omega)
    rw [show i + (j - i - 1 + 1) = j by omega, ← e] at this
    exact this
  · have := wlk_of (L := L) (f := f) (s := j) (c := 8 - j) fun k _ hk => fs k (by omega)
    rw [show j + (8 - j) = 8 by omega, f8, ← e] at this
    exact this
theorem wlk_short (hn : n < 8) : ∀ (t : Nat), wlk L t n m → ∃ s, s < 8 ∧ wlk L s n m := by
  intro t
  induction t using Nat.strongRecOn with
  | ind t ih =>
    intro h
    by_cases ht : t < 8
    · exact ⟨t, ht, h⟩
    · obtain ⟨f, f0, ft, fs⟩ := wlk_fun h
      have h8 := wlk_of (L := L) (f := f) (s := 0) (c := 8) fun k _ hk => fs k (by omega)
      have hr := wlk_of (L := L) (f := f) (s := 8) (c := t - 8) fun k _ hk => fs k (by omega)
      rw [f0, Nat.zero_add] at h8
      rw [show 8 + (t - 8) = t by omega, ft] at hr
      obtain ⟨q, s, t', c, e, h1, h2, h3⟩ := wlk_circle hn h8
      exact ih (s + (t' + (t - 8))) (by omega) (wlk_add h1 (wlk_add h3 hr))
theorem made_back {t : Nat} (h : wlk L t n q) (hq : madeP L b q) : madeP L b n := by
  obtain ⟨s, m, h1, h2⟩ := hq
  exact ⟨t + s, m, wlk_add h h1, h2⟩
theorem end_back {t : Nat} (h : wlk L t n q) (hq : endP L b q) : endP L b n := by
  obtain ⟨s, m, h1, h2⟩ := hq
  exact ⟨t + s, m, wlk_add h h1, h2⟩
theorem end_made (h : endP L b n) : madeP L b n := by
  obtain ⟨s, m, h1, h2 | ⟨h2, -⟩⟩ := h
  · exact ⟨s, m, h1, by omega⟩
  · exact made_back h1 h2
theorem end_8 (hn : n < 8) (h : wlk L 8 n m) (hm : madeP L b m) : endP L b n := by
  obtain ⟨q, s, t, c, -, h1, h2, h3⟩ := wlk_circle hn h
  exact ⟨s, q, h1, Or.inr ⟨made_back h3 hm, c, h2⟩⟩
theorem wEq_uniq (hL : ∀ n k, 0 ≤ L n k) (h : wEq L b U) (h' : wEq L b U') (hn : n < 8) : U n = U' n := by
  refine Classical.byContradiction fun hne => ?_
  have key : ∀ t, ∃ m, m < 8 ∧ wlk L t n m ∧ U m ≠ U' m := by
    intro t
    induction t with
    | zero => exact ⟨n, hn, rfl, hne⟩
    | succ t ih =>
      obtain ⟨m, hm, hw, hd⟩ := ih
      have hE : ¬ endP L b m := fun q => hd (by rw [(h m hm).1 q, (h' m hm).1 q])
      have h1 := (h m hm).2.2 hE
      have h2 := (h' m hm).2.2 hE
      have hws : wsum (b m) (fun k => wmult (L m k) (U k)) 8 ≠ wsum (b m) (fun k => wmult (L m k) (U' k)) 8 := by rw [← h1, ← h2]; exact hd
      obtain ⟨k, hk, hd2⟩ := wsum_ne hws
      have hd3 : wmult (L m k) (U k) ≠ wmult (L m k) (U' k) := hd2
      have hl : L m k ≠ 0 := fun q => hd3 (by rw [q, wmult_0l, wmult_0l])
      have := hL m k
      exact ⟨k, hk, wlk_add hw (wlk_1 hk (by omega)), fun q => hd3 (by rw [q])⟩
  obtain ⟨m, hm, hw, hd⟩ := key 8
  have hM : madeP L b m := Classical.byContradiction fun q => hd (by rw [(h m hm).2.1 q, (h' m hm).2.1 q])
  have hE := end_8 hn hw hM
  exact hne (by rw [(h n hn).1 hE, (h' n hn).1 hE])
theorem wDj_ok (hb : ∀ n, n < 8 → wOK (b n)) (hLok : ∀ n k, n < 8 → k < 8 → wOK (L n k)) (t : Nat) : ∀ n, n < 8 → wOK (wDj L b t n) := by
  induction t with
  | zero => exact hb
  | succ t ih => exact fun n hn => wsum_ok (hb n hn) fun k hk => wOK_mult (hLok n k hn hk) (ih k hk)
theorem wDj_0 (hb : ∀ n, n < 8 → wOK (b n)) (t : Nat) : ∀ n, n < 8 → ¬ madeP L b n → (∀ n k, 0 ≤ L n k) → wDj L b t n = 0 := by
  have hb0 : ∀ n, ¬ madeP L b n → b n = 0 := fun n hM => Classical.byContradiction fun q => hM ⟨0, n, rfl, q⟩
  induction t with
  | zero => exact fun n _ hM _ => hb0 n hM
  | succ t ih =>
    intro n hn hM hL
    show wsum (b n) _ 8 = 0
    rw [wsum_0 (hb n hn) fun k hk => ?_]
    · exact hb0 n hM
    · show wmult (L n k) (wDj L b t k) = 0
      by_cases q : L n k = 0
      · rw [q, wmult_0l]
      · have := hL n k
        rw [ih k hk (fun z => hM (made_back (wlk_1 hk (by omega)) z)) hL, wmult_0r]
theorem wDj_step (hb : ∀ n, n < 8 → wOK (b n)) (hL : ∀ n k, 0 ≤ L n k) (t : Nat) : ∀ n, n < 8 → wDj L b (t + 1) n ≠ wDj L b t n → ∃ m, wlk L (t + 1) n m ∧ madeP L b m := by
  induction t with
  | zero =>
    intro n hn h
    have : ∃ k, k < 8 ∧ wmult (L n k) (b k) ≠ 0 := by
      refine Classical.byContradiction fun hc => h ?_
      show wsum (b n) _ 8 = b n
      exact wsum_0 (hb n hn) fun k hk => Classical.byContradiction fun q => hc ⟨k, hk, q⟩
    obtain ⟨k, hk, hm⟩ := this
    have h1 : L n k ≠ 0 := fun q => hm (by rw [q, wmult_0l])
    have h2 : b k ≠ 0 := fun q => hm (by rw [q, wmult_0r])
    have := hL n k
    exact ⟨k, wlk_1 hk (by omega), 0, k, rfl, h2⟩
  | succ t ih =>
    intro n hn h
    obtain ⟨k, hk, hd⟩ := wsum_ne (show wsum (b n) (fun k => wmult (L n k) (wDj L b (t + 1) k)) 8 ≠ wsum (b n) (fun k => wmult (L n k) (wDj L b t k)) 8 from h)
    have hd2 : wmult (L n k) (wDj L b (t + 1) k) ≠ wmult (L n k) (wDj L b t k) := hd
    have h1 : L n k ≠ 0 := fun q => hd2 (by rw [q, wmult_0l, wmult_0l])
    have := hL n k
    obtain ⟨m, hw, hm⟩ := ih k hk fun q => hd2 (by rw [q])
    exact ⟨m, ⟨k, hk, by omega, hw⟩, hm⟩
theorem wS_eq (hb : ∀ n, n < 8 → wOK (b n)) (hL : ∀ n k, 0 ≤ L n k) : wEq L b (wS L b) := by
  intro n hn
  refine ⟨fun h => ?_, fun h => ?_, fun h => ?_⟩
  · unfold wS; rw [cI_t h]
  · unfold wS; rw [cI_f fun q => h (end_made q)]; exact wDj_0 hb 8 n hn h hL
  · unfold wS
    rw [cI_f h]
    show wsum (b n) (fun k => wmult (L n k) (wDj L b 7 k)) 8 = _
    refine wsum_congr fun k hk => ?_
    show wmult (L n k) (wDj L b 7 k) = wmult (L n k) (cI (endP L b k) (-10) (wDj L b 8 k))
    by_cases q : L n k = 0
    · rw [q, wmult_0l, wmult_0l]
    · have hl := hL n k
      have hE : ¬ endP L b k := fun z => h (end_back (wlk_1 hk (by omega)) z)
      rw [cI_f hE]
      by_cases e : wDj L b (7 + 1) k = wDj L b 7 k
      · rw [← e]
      · obtain ⟨m, hw, hm⟩ := wDj_step hb hL 7 k hk e
        exact absurd (end_8 hk hw hm) hE
theorem wS_ok (hb : ∀ n, n < 8 → wOK (b n)) (hLok : ∀ n k, n < 8 → k < 8 → wOK (L n k)) (hn : n < 8) : wOK (wS L b n) := by
  unfold wS
  by_cases h : endP L b n
  · rw [cI_t h]; exact Or.inl rfl
  · rw [cI_f h]; exact wDj_ok hb hLok 8 n hn
end WK
