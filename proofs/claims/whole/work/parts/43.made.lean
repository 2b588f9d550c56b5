/-! the reference finds what is made, what reaches what -/
def mpP (L : Nat → Nat → Int) (b : Nat → Int) (t n : Nat) : Prop := ∃ s m, s ≤ t ∧ wlk L s n m ∧ b m ≠ 0
def rch (L : Nat → Nat → Int) (b : Nat → Int) : Nat → Nat → Nat → Prop
  | 0, n, k => 0 < L n k ∧ madeP L b n ∧ madeP L b k
  | v + 1, n, k => rch L b v n k ∨ (rch L b v n v ∧ rch L b v v k)
section RC
variable {L : Nat → Nat → Int} {b : Nat → Int} {n m k v j : Nat}
theorem mpP_made {t : Nat} (h : mpP L b t n) : madeP L b n := by
  obtain ⟨s, m, -, h1, h2⟩ := h
  exact ⟨s, m, h1, h2⟩
theorem made_mpP (hn : n < 8) (h : madeP L b n) : mpP L b 8 n := by
  obtain ⟨t, m, h1, h2⟩ := h
  obtain ⟨s, hs, h3⟩ := wlk_short hn t h1
  exact ⟨s, m, by omega, h3, h2⟩
theorem mpP_succ {t : Nat} (h : mpP L b (t + 1) n) : mpP L b t n ∨ ∃ k, k < 8 ∧ 0 < L n k ∧ mpP L b t k := by
  obtain ⟨s, m, hs, h1, h2⟩ := h
  cases s with
  | zero => exact Or.inl ⟨0, m, by omega, h1, h2⟩
  | succ s =>
    obtain ⟨k, hk, hl, hw⟩ := h1
    exact Or.inr ⟨k, hk, hl, s, m, by omega, hw, h2⟩
theorem rch_v (v n : Nat) : rch L b (v + 1) n v ↔ rch L b v n v := ⟨fun h => h.elim id fun q => q.1, Or.inl⟩
theorem rch_v' (v k : Nat) : rch L b (v + 1) v k ↔ rch L b v v k := ⟨fun h => h.elim id fun q => q.2, Or.inl⟩
theorem rch_mono {w : Nat} (h : rch L b v n k) : rch L b (v + w) n k := by
  induction w with
  | zero => exact h
  | succ w ih => exact Or.inl ih
theorem rch_trans : ∀ v n j k, j < v → rch L b v n j → rch L b v j k → rch L b v n k := by
  intro v
  induction v with
  | zero => intro n j k h; exact absurd h (Nat.not_lt_zero j)
  | succ v ih =>
    intro n j k hj h1 h2
    by_cases e : j = v
    · subst e
      exact Or.inr ⟨(rch_v _ _).1 h1, (rch_v' _ _).1 h2⟩
    · have hj2 : j < v := by omega
      rcases h1 with h1 | ⟨h1, h1'⟩ <;> rcases h2 with h2 | ⟨h2, h2'⟩
      · exact Or.inl (ih n j k hj2 h1 h2)
      · exact Or.inr ⟨ih n j v hj2 h1 h2, h2'⟩
      · exact Or.inr ⟨h1, ih v j k hj2 h1' h2⟩
      · exact Or.inr ⟨h1, h2'⟩
theorem rch_wlk : ∀ v, v ≤ 8 → ∀ n k, k < 8 → rch L b v n k → ∃ c, wlk L (c + 1) n k ∧ madeP L b k := by
  intro v
  induction v with
  | zero => exact fun _ n k hk h => ⟨0, wlk_1 hk h.1, h.2.2⟩
  | succ v ih =>
    intro hv n k hk h
    rcases h with h | ⟨h1, h2⟩
    · exact ih (by omega) n k hk h
    · obtain ⟨c1, w1, -⟩ := ih (by omega) n v (by omega) h1
      obtain ⟨c2, w2, m2⟩ := ih (by omega) v k hk h2
      refine ⟨c1 + 1 + c2, ?_, m2⟩
      have := wlk_add w1 w2
      rw [show c1 + 1 + (c2 + 1) = c1 + 1 + c2 + 1 by omega] at this
      exact this
theorem wlk_rch : ∀ c n, wlk L (c + 1) n k → madeP L b k → rch L b 8 n k := by
  intro c
  induction c with
  | zero =>
    rintro n ⟨j, hj, hl, hw⟩ hm
    have : j = k := hw
    subst this
    exact rch_mono (v := 0) (w := 8) ⟨hl, made_back (wlk_1 hj hl) hm, hm⟩
  | succ c ih =>
    rintro n ⟨j, hj, hl, hw⟩ hm
    have hmj : madeP L b j := made_back hw hm
    exact rch_trans 8 n j k hj (rch_mono (v := 0) (w := 8) ⟨hl, made_back (wlk_1 hj hl) hmj, hmj⟩) (ih j hw hm)
theorem endP_iff (hb : ∀ n, n < 8 → wOK (b n)) (hn : n < 8) (hM : madeP L b n) : endP L b n ↔ (b n < 0 ∨ rch L b 8 n n) ∨ ∃ k, k < 8 ∧ rch L b 8 n k ∧ (b k < 0 ∨ rch L b 8 k k) := by
  constructor
  · rintro ⟨t, m, hw, hc⟩
    have hm : madeP L b m := by
      rcases hc with hc | hc
      · exact ⟨0, m, rfl, by omega⟩
      · exact hc.1
    have hc2 : b m < 0 ∨ rch L b 8 m m := by
      rcases hc with hc | ⟨-, c, hc⟩
      · left; omega
      · exact Or.inr (wlk_rch c m hc hm)
    cases t with
    | zero =>
      have : n = m := hw
      subst this
      exact Or.inl hc2
    | succ t =>
      have hm8 : m < 8 := by
        obtain ⟨f, -, ft, fs⟩ := wlk_fun hw
        rw [← ft]; exact (fs t (by omega)).1
      exact Or.inr ⟨m, hm8, wlk_rch t n hw hm, hc2⟩
  · have one : ∀ k, k < 8 → (b k < 0 ∨ rch L b 8 k k) → endP L b k := by
      intro k hk h
      rcases h with h | h
      · exact ⟨0, k, rfl, Or.inl (by have := hb k hk; unfold wOK at this; omega)⟩
      · obtain ⟨c, w, m⟩ := rch_wlk 8 (Nat.le_refl _) k k hk h
        exact ⟨0, k, rfl, Or.inr ⟨m, c, w⟩⟩
    rintro (h | ⟨k, hk, h1, h2⟩)
    · exact one n hn h
    · obtain ⟨c, w, -⟩ := rch_wlk 8 (Nat.le_refl _) n k hk h1
      exact end_back w (one k hk h2)
end RC
