/-! the reference's findMade, isEndless -/
def knM (μ : Nat → Nat → Int) (L : Nat → Nat → Int) (b : Nat → Int) : Prop := (∀ n, n < 8 → μ 297 n = b n) ∧ ∀ n k, n < 8 → k < 8 → μ 298 (8 * n + k) = L n k
def frF (μ μ' : Nat → Nat → Int) : Prop := ∀ b, b ≠ 299 → b ≠ 300 → μ' b = μ b
theorem dv8 {j : Nat} (h : j < 64) : w32 (Int.tdiv (j : Int) 8) = ((j / 8 : Nat) : Int) := by
  rw [Int.tdiv_eq_ediv_of_nonneg (by omega), w32_id (by omega) (by omega)]; omega
theorem md8 {j : Nat} (h : j < 64) : w32 (Int.tmod (j : Int) 8) = ((j % 8 : Nat) : Int) := by
  rw [Int.tmod_eq_emod_of_nonneg (by omega), w32_id (by omega) (by omega)]; omega
theorem ix8 {j v : Nat} (h : j < 64) (hv : v < 8) : w32 (w32 (((j / 8 : Nat) : Int) * 8) + (v : Int)) = ((8 * (j / 8) + v : Nat) : Int) := by
  rw [w32_id (x := ((j / 8 : Nat) : Int) * 8) (by omega) (by omega), w32_id (by omega) (by omega)]; omega
theorem ix8' {n k : Nat} (h : n < 8) (hk : k < 8) : w32 (w32 (8 * (n : Int)) + (k : Int)) = ((8 * n + k : Nat) : Int) := by
  rw [w32_id (x := 8 * (n : Int)) (by omega) (by omega), w32_id (by omega) (by omega)]; omega
theorem ix9 {n : Nat} (h : n < 8) : w32 (9 * (n : Int)) = ((8 * n + n : Nat) : Int) := by
  rw [w32_id (by omega) (by omega)]; omega
theorem j88 {j : Nat} (h : j < 64) : j / 8 < 8 ∧ j % 8 < 8 ∧ 8 * (j / 8) + j % 8 = j := by omega
theorem nk88 {n k : Nat} (h : n < 8) (hk : k < 8) : (8 * n + k) / 8 = n ∧ (8 * n + k) % 8 = k ∧ 8 * n + k < 64 := by omega
theorem tI {j : Nat} {N : Nat} (h : j < N) : 0 ≤ (j : Int) ∧ (j : Int) < (N : Nat) := by omega
section FM
variable {sh : List (Nat × Nat)} {ν : Nat → Nat → Option Nat} {μ : Nat → Nat → Int} {f s : Nat} {Q : xQ} {L : Nat → Nat → Int} {b : Nat → Int}
theorem c_fm_171 (hW : WF sh ν f s) (hr : ∀ i, i < 64 → (μ 300 i ≠ 0 ↔ rch L b 0 (i / 8) (i % 8)))
    (k : ∀ μ' : Nat → Nat → Int, (∀ i, i < 64 → (μ' 300 i ≠ 0 ↔ rch L b 8 (i / 8) (i % 8))) → (∀ c, c ≠ 300 → μ' c = μ c) → Q none sh ν μ') : X mX10_findMade 171 [(0, vR 265), (1, vI 0)] [] sh ν μ 0 0 Q := by
  have key := loop_up 8 (fun (v : Nat) (m : Nat → Nat → Int) => (∀ i, i < 64 → (m 300 i ≠ 0 ↔ rch L b v (i / 8) (i % 8))) ∧ ∀ c, c ≠ 300 → m c = μ c) (fun v m => X mX10_findMade 171 [(0, vR 265), (1, vI (v : Nat))] [] sh ν m 0 0 Q) ?_ ?_ 0 μ (Nat.zero_le _) ⟨hr, fun _ _ => rfl⟩
  · exact key
  · rintro m ⟨g1, g2⟩
    exact g_X10_findMade_171 hW ⟨fun _ => k m g1 g2, fun q => absurd q (by omega)⟩
  · rintro v m hv ⟨g1, g2⟩ ih
    refine g_X10_findMade_171 hW ⟨fun q => absurd q (by omega), fun _ => ?_⟩
    have key2 := loop_up 64 (fun (j : Nat) (m' : Nat → Nat → Int) => (∀ i, i < 64 → (i < j → (m' 300 i ≠ 0 ↔ rch L b (v + 1) (i / 8) (i % 8))) ∧ (¬ i < j → (m' 300 i ≠ 0 ↔ rch L b v (i / 8) (i % 8)))) ∧ ∀ c, c ≠ 300 → m' c = m c) (fun j m' => X mX10_findMade 179 [(0, vR 265), (1, vI (v : Nat)), (2, vI (j : Nat))] [] sh ν m' 0 0 Q) ?_ ?_ 0 m (Nat.zero_le _) ⟨fun i hi => ⟨fun q => absurd q (Nat.not_lt_zero i), fun _ => g1 i hi⟩, fun _ _ => rfl⟩
    · exact key2
    · rintro m' ⟨u1, u2⟩
      refine g_X10_findMade_179 hW ⟨fun _ => ?_, fun q => absurd q (by omega)⟩
      rw [wi1 (by omega)]
      exact ih m' ⟨fun i hi => (u1 i hi).1 hi, fun c hc => (u2 c hc).trans (g2 c hc)⟩
    · rintro j m' hj ⟨u1, u2⟩ ih2
      obtain ⟨j1, j2, j3⟩ := j88 hj
      obtain ⟨a1, a2, a3⟩ := nk88 j1 hv
      obtain ⟨b1, b2, b3⟩ := nk88 hv j2
      have hnv : m' 300 (8 * (j / 8) + v) ≠ 0 ↔ rch L b v (j / 8) v := by
        have := u1 (8 * (j / 8) + v) a3
        rw [a1, a2] at this
        by_cases q : 8 * (j / 8) + v < j
        · exact (this.1 q).trans (rch_v _ _)
        · exact this.2 q
      have hvk : m' 300 (8 * v + j % 8) ≠ 0 ↔ rch L b v v (j % 8) := by
        have := u1 (8 * v + j % 8) b3
        rw [b1, b2] at this
        by_cases q : 8 * v + j % 8 < j
        · exact (this.1 q).trans (rch_v' _ _)
        · exact this.2 q
      have hjj := (u1 j hj).2 (Nat.lt_irrefl j)
      have st : ∀ y : Int, (y = 0 ∨ y = 1) → (y ≠ 0 ↔ rch L b (v + 1) (j / 8) (j % 8)) → X mX10_findMade 238 [(0, vR 265), (1, vI (v : Nat)), (2, vI (j : Nat))] [vI y, vI (j : Nat), vR 300] sh ν m' 0 0 Q := by
        intro y hy1 hy2
        refine g_X10_findMade_238 hW (fa_X10_46 hW) ⟨tI hj, hy1, ?_⟩
        rw [wi1 (by omega), Int.toNat_natCast]
        refine ih2 _ ⟨fun i hi => ?_, fun c hc => by rw [up_o' hc]; exact u2 c hc⟩
        by_cases e : i = j
        · rw [e, up_s]
          exact ⟨fun _ => hy2, fun q => absurd (Nat.lt_succ_self j) q⟩
        · rw [up_k' e]
          exact ⟨fun q => (u1 i hi).1 (by omega), fun q => (u1 i hi).2 (by omega)⟩
      refine g_X10_findMade_179 hW ⟨fun q => absurd q (by omega), fun _ => ?_⟩
      rw [dv8 hj, md8 hj, ix8 hj hv, ix8' hv j2, Int.toNat_natCast, Int.toNat_natCast, Int.toNat_natCast]
      refine ⟨tI hj, fun q => ?_, fun q => ⟨tI a3, fun q2 => ?_, fun q2 => ⟨tI b3, fun q3 => ?_, fun q3 => ?_⟩⟩⟩
      · exact g_X10_findMade_233 hW (fa_X10_46 hW) (st 1 (Or.inr rfl) ⟨fun _ => Or.inl (hjj.1 q), fun _ => by decide⟩)
      · exact g_X10_findMade_237 hW (fa_X10_46 hW) (st 0 (Or.inl rfl) ⟨fun z => absurd rfl z, fun z => by
          rcases z with z | ⟨z, -⟩
          · exact absurd q (hjj.2 z)
          · exact absurd q2 (hnv.2 z)⟩)
      · exact g_X10_findMade_237 hW (fa_X10_46 hW) (st 0 (Or.inl rfl) ⟨fun z => absurd rfl z, fun z => by
          rcases z with z | ⟨-, z⟩
          · exact absurd q (hjj.2 z)
          · exact absurd q3 (hvk.2 z)⟩)
      · exact g_X10_findMade_233 hW (fa_X10_46 hW) (st 1 (Or.inr rfl) ⟨fun _ => Or.inr ⟨hnv.1 q2, hvk.1 q3⟩, fun _ => by decide⟩)
theorem c_fm_113 (hW : WF sh ν f s) (hK : knM μ L b) (hm : ∀ n, n < 8 → (μ 299 n ≠ 0 ↔ madeP L b n))
    (k : ∀ μ' : Nat → Nat → Int, (∀ i, i < 64 → (μ' 300 i ≠ 0 ↔ rch L b 8 (i / 8) (i % 8))) → (∀ c, c ≠ 300 → μ' c = μ c) → Q none sh ν μ') : X mX10_findMade 113 [(0, vR 265), (1, vI 0)] [] sh ν μ 0 0 Q := by
  have key := loop_up 64 (fun (j : Nat) (m : Nat → Nat → Int) => (∀ i, i < j → (m 300 i ≠ 0 ↔ rch L b 0 (i / 8) (i % 8))) ∧ ∀ c, c ≠ 300 → m c = μ c) (fun j m => X mX10_findMade 113 [(0, vR 265), (1, vI (j : Nat))] [] sh ν m 0 0 Q) ?_ ?_ 0 μ (Nat.zero_le _) ⟨fun i hi => absurd hi (Nat.not_lt_zero i), fun _ _ => rfl⟩
  · exact key
  · rintro m ⟨g1, g2⟩
    refine g_X10_findMade_113 hW ⟨fun _ => ?_, fun q => absurd q (by omega)⟩
    exact c_fm_171 hW g1 fun μ' q1 q2 => k μ' q1 fun c hc => (q2 c hc).trans (g2 c hc)
  · rintro j m hj ⟨g1, g2⟩ ih
    obtain ⟨j1, j2, j3⟩ := j88 hj
    have e298 : m 298 j = L (j / 8) (j % 8) := by rw [g2 298 (by decide)]; have := hK.2 (j / 8) (j % 8) j1 j2; rw [j3] at this; exact this
    have em : ∀ n, n < 8 → (m 299 n ≠ 0 ↔ madeP L b n) := fun n hn => by rw [g2 299 (by decide)]; exact hm n hn
    have st : ∀ y : Int, (y = 0 ∨ y = 1) → (y ≠ 0 ↔ rch L b 0 (j / 8) (j % 8)) → X mX10_findMade 162 [(0, vR 265), (1, vI (j : Nat))] [vI y, vI (j : Nat), vR 300] sh ν m 0 0 Q := by
      intro y hy1 hy2
      refine g_X10_findMade_162 hW (fa_X10_46 hW) ⟨tI hj, hy1, ?_⟩
      rw [wi1 (by omega), Int.toNat_natCast]
      refine ih _ ⟨fun i hi => ?_, fun c hc => by rw [up_o' hc]; exact g2 c hc⟩
      by_cases e : i = j
      · rw [e, up_s]; exact hy2
      · rw [up_k' e]; exact g1 i (by omega)
    have no : ¬ rch L b 0 (j / 8) (j % 8) → X mX10_findMade 161 [(0, vR 265), (1, vI (j : Nat))] [vI (j : Nat), vR 300] sh ν m 0 0 Q := fun q => g_X10_findMade_161 hW (fa_X10_46 hW) (st 0 (Or.inl rfl) ⟨fun z => absurd rfl z, fun z => absurd z q⟩)
    refine g_X10_findMade_113 hW ⟨fun q => absurd q (by omega), fun _ => ?_⟩
    rw [dv8 hj, md8 hj, Int.toNat_natCast, Int.toNat_natCast, Int.toNat_natCast, e298]
    refine ⟨tI hj, fun q => no fun z => ?_, fun q => ⟨tI j1, fun q2 => no fun z => ?_, fun q2 => ⟨tI j2, fun q3 => no fun z => ?_, fun q3 => ?_⟩⟩⟩
    · exact absurd z.1 (Int.not_lt.2 q)
    · exact absurd q2 ((em _ j1).2 z.2.1)
    · exact absurd q3 ((em _ j2).2 z.2.2)
    · exact st 1 (Or.inr rfl) ⟨fun _ => ⟨q, (em _ j1).1 q2, (em _ j2).1 q3⟩, fun _ => by decide⟩
theorem c_X10_findMade (hW : WF sh ν f s) (hK : knM μ L b)
    (k : ∀ μ' : Nat → Nat → Int, (∀ n, n < 8 → (μ' 299 n ≠ 0 ↔ madeP L b n)) → (∀ i, i < 64 → (μ' 300 i ≠ 0 ↔ rch L b 8 (i / 8) (i % 8))) → frF μ μ' → Q none sh ν μ') : X mX10_findMade 0 [(0, vR 265)] [] sh ν μ 0 0 Q := by
  have h38 : ∀ m : Nat → Nat → Int, (∀ c, c ≠ 299 → m c = μ c) → (∀ n, n < 8 → (m 299 n ≠ 0 → madeP L b n) ∧ (mpP L b 0 n → m 299 n ≠ 0)) → X mX10_findMade 38 [(0, vR 265), (1, vI 0)] [] sh ν m 0 0 Q := by
    intro m0 z1 z2
    have key := loop_up 8 (fun (t : Nat) (m : Nat → Nat → Int) => (∀ c, c ≠ 299 → m c = μ c) ∧ ∀ n, n < 8 → (m 299 n ≠ 0 → madeP L b n) ∧ (mpP L b t n → m 299 n ≠ 0)) (fun t m => X mX10_findMade 38 [(0, vR 265), (1, vI (t : Nat))] [] sh ν m 0 0 Q) ?_ ?_ 0 m0 (Nat.zero_le _) ⟨z1, z2⟩
    · exact key
    · rintro m ⟨g1, g2⟩
      have hK' : knM m L b := by unfold knM; rw [g1 297 (by decide), g1 298 (by decide)]; exact hK
      have hm : ∀ n, n < 8 → (m 299 n ≠ 0 ↔ madeP L b n) := fun n hn => ⟨(g2 n hn).1, fun q => (g2 n hn).2 (made_mpP hn q)⟩
      refine g_X10_findMade_38 hW ⟨fun _ => ?_, fun q => absurd q (by omega)⟩
      refine c_fm_113 hW hK' hm fun μ' q1 q2 => k μ' (fun n hn => by rw [q2 299 (by decide)]; exact hm n hn) q1 fun c c0 c1 => (q2 c c1).trans (g1 c c0)
    · rintro t m ht ⟨g1, g2⟩ ih
      refine g_X10_findMade_38 hW ⟨fun q => absurd q (by omega), fun _ => ?_⟩
      have key2 := loop_up 64 (fun (j : Nat) (m' : Nat → Nat → Int) => (∀ c, c ≠ 299 → m' c = μ c) ∧ (∀ n, n < 8 → (m' 299 n ≠ 0 → madeP L b n) ∧ (mpP L b t n → m' 299 n ≠ 0)) ∧ ∀ i, i < j → 0 < L (i / 8) (i % 8) → mpP L b t (i % 8) → m' 299 (i / 8) ≠ 0) (fun j m' => X mX10_findMade 46 [(0, vR 265), (1, vI (t : Nat)), (2, vI (j : Nat))] [] sh ν m' 0 0 Q) ?_ ?_ 0 m (Nat.zero_le _) ⟨g1, g2, fun i hi => absurd hi (Nat.not_lt_zero i)⟩
      · exact key2
      · rintro m' ⟨u1, u2, u3⟩
        refine g_X10_findMade_46 hW ⟨fun _ => ?_, fun q => absurd q (by omega)⟩
        rw [wi1 (by omega)]
        refine ih m' ⟨u1, fun n hn => ⟨(u2 n hn).1, fun q => ?_⟩⟩
        rcases mpP_succ q with q | ⟨k, hk, hl, q⟩
        · exact (u2 n hn).2 q
        · obtain ⟨a1, a2, a3⟩ := nk88 hn hk
          have := u3 (8 * n + k) a3
          rw [a1, a2] at this
          exact this hl q
      · rintro j m' hj ⟨u1, u2, u3⟩ ih2
        obtain ⟨j1, j2, j3⟩ := j88 hj
        have e298 : m' 298 j = L (j / 8) (j % 8) := by rw [u1 298 (by decide)]; have := hK.2 (j / 8) (j % 8) j1 j2; rw [j3] at this; exact this
        have st : ∀ y : Int, (y = 0 ∨ y = 1) → (y ≠ 0 ↔ (m' 299 (j / 8) ≠ 0 ∨ (0 < L (j / 8) (j % 8) ∧ m' 299 (j % 8) ≠ 0))) → X mX10_findMade 98 [(0, vR 265), (1, vI (t : Nat)), (2, vI (j : Nat))] [vI y, vI ((j / 8 : Nat) : Int), vR 299] sh ν m' 0 0 Q := by
          intro y hy1 hy2
          refine g_X10_findMade_98 hW (fa_X10_45 hW) ⟨tI j1, hy1, ?_⟩
          rw [wi1 (by omega), Int.toNat_natCast]
          have hkeep : ∀ n, m' 299 n ≠ 0 → up m' 299 (j / 8) y 299 n ≠ 0 := fun n q => by
            by_cases e : n = j / 8
            · rw [e, up_s]; rw [e] at q; exact hy2.2 (Or.inl q)
            · rw [up_k' e]; exact q
          refine ih2 _ ⟨fun c hc => by rw [up_o' hc]; exact u1 c hc, fun n hn => ⟨fun q => ?_, fun q => hkeep n ((u2 n hn).2 q)⟩, fun i hi q1 q2 => ?_⟩
          · by_cases e : n = j / 8
            · rw [e, up_s] at q
              rcases hy2.1 q with z | ⟨z1, z2⟩
              · rw [e]; exact (u2 _ j1).1 z
              · rw [e]; exact made_back (wlk_1 j2 z1) ((u2 _ j2).1 z2)
            · rw [up_k' e] at q; exact (u2 n hn).1 q
          · by_cases e : i = j
            · rw [e, up_s]; rw [e] at q1 q2
              exact hy2.2 (Or.inr ⟨q1, (u2 _ j2).2 q2⟩)
            · exact hkeep _ (u3 i (by omega) q1 q2)
        refine g_X10_findMade_46 hW ⟨fun q => absurd q (by omega), fun _ => ?_⟩
        rw [dv8 hj, md8 hj, Int.toNat_natCast, Int.toNat_natCast, Int.toNat_natCast, e298]
        refine ⟨tI j1, fun q => ?_, fun q => ⟨tI hj, fun q2 => ?_, fun q2 => ⟨tI j2, fun q3 => ?_, fun q3 => ?_⟩⟩⟩
        · exact g_X10_findMade_93 hW (fa_X10_45 hW) (st 1 (Or.inr rfl) ⟨fun _ => Or.inl q, fun _ => by decide⟩)
        · exact g_X10_findMade_97 hW (fa_X10_45 hW) (st 0 (Or.inl rfl) ⟨fun z => absurd rfl z, fun z => by
            rcases z with z | ⟨z, -⟩
            · exact absurd q z
            · exact absurd z (Int.not_lt.2 q2)⟩)
        · exact g_X10_findMade_97 hW (fa_X10_45 hW) (st 0 (Or.inl rfl) ⟨fun z => absurd rfl z, fun z => by
            rcases z with z | ⟨-, z⟩
            · exact absurd q z
            · exact absurd q3 z⟩)
        · exact g_X10_findMade_93 hW (fa_X10_45 hW) (st 1 (Or.inr rfl) ⟨fun _ => Or.inr ⟨q2, q3⟩, fun _ => by decide⟩)
  refine g_X10_findMade_0 hW ?_
  have key := loop_up 8 (fun (i : Nat) (m : Nat → Nat → Int) => (∀ c, c ≠ 299 → m c = μ c) ∧ ∀ n, n < i → (m 299 n ≠ 0 ↔ b n ≠ 0)) (fun i m => X mX10_findMade 2 [(0, vR 265), (1, vI (i : Nat))] [] sh ν m 0 0 Q) ?_ ?_ 0 μ (Nat.zero_le _) ⟨fun _ _ => rfl, fun i hi => absurd hi (Nat.not_lt_zero i)⟩
  · exact key
  · rintro m ⟨g1, g2⟩
    refine g_X10_findMade_2 hW ⟨fun _ => h38 m g1 fun n hn => ⟨fun q => ⟨0, n, rfl, (g2 n hn).1 q⟩, fun ⟨s, w, hs, hw, hb⟩ => ?_⟩, fun q => absurd q (by omega)⟩
    have : s = 0 := by omega
    subst this
    have : n = w := hw
    subst this
    exact (g2 n hn).2 hb
  · rintro i m hi ⟨g1, g2⟩ ih
    have st : ∀ y : Int, (y = 0 ∨ y = 1) → (y ≠ 0 ↔ b i ≠ 0) → X mX10_findMade 29 [(0, vR 265), (1, vI (i : Nat))] [vI y, vI (i : Nat), vR 299] sh ν m 0 0 Q := by
      intro y hy1 hy2
      refine g_X10_findMade_29 hW (fa_X10_45 hW) ⟨tI hi, hy1, ?_⟩
      rw [wi1 (by omega), Int.toNat_natCast]
      refine ih _ ⟨fun c hc => by rw [up_o' hc]; exact g1 c hc, fun n hn => ?_⟩
      by_cases e : n = i
      · rw [e, up_s]; exact hy2
      · rw [up_k' e]; exact g2 n (by omega)
    refine g_X10_findMade_2 hW ⟨fun q => absurd q (by omega), fun _ => ?_⟩
    rw [Int.toNat_natCast, show m 297 i = b i by rw [g1 297 (by decide)]; exact hK.1 i hi]
    exact ⟨tI hi, fun q => st 0 (Or.inl rfl) ⟨fun z => absurd rfl z, fun z => absurd q z⟩, fun q => st 1 (Or.inr rfl) ⟨fun _ => q, fun _ => by decide⟩⟩
end FM
