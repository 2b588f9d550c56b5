/-! the reference's loop of passes ends, by a measure that falls -/
section WH
variable {sh : List (Nat × Nat)} {ν : Nat → Nat → Option Nat} {μ : Nat → Nat → Int} {f s : Nat} {Q : xQ}
theorem c_X10_work109 (hW : WF sh ν f s) {x y w h p : Int} (K : (Nat → Nat → Int) → Prop) (ms : (Nat → Nat → Int) → Nat) (E : (Nat → Nat → Int) → Prop)
    (step : ∀ m, K m → ∀ Q' : xQ, (∀ m', K m' → ms m' < ms m → Q' (some (vI 1)) sh ν m') → (∀ m', E m' → Q' (some (vI 0)) sh ν m') → X mX10_improve 0 [(0, vR 265), (1, vI p), (2, vI x), (3, vI y), (4, vI w), (5, vI h)] [] sh ν m 0 0 Q')
    (hK : K μ) (k : ∀ m, E m → Q none sh ν m) : X mX10_work 106 [(0, vR 265), (1, vI x), (2, vI y), (3, vI w), (4, vI h), (5, vI p)] [] sh ν μ 0 0 Q := by
  have key : ∀ N : Nat, ∀ m, ms m < N → K m → X mX10_work 109 [(0, vR 265), (1, vI x), (2, vI y), (3, vI w), (4, vI h), (5, vI p), (6, vI 1)] [] sh ν m 0 0 Q := by
    intro N
    induction N with
    | zero => intro m hm; exact absurd hm (Nat.not_lt_zero _)
    | succ N ih =>
      intro m hm hk
      refine g_X10_work_109 hW ⟨fun q => absurd q (by decide), fun _ => ?_⟩
      refine step m hk _ (fun m' h1 h2 => ?_) (fun m' h1 => ?_)
      · exact g_X10_work_125 hW (ih m' (by omega) h1)
      · refine g_X10_work_125 hW ?_
        exact g_X10_work_109 hW ⟨fun _ => k m' h1, fun q => absurd rfl q⟩
  refine g_X10_work_106 hW ?_
  exact key (ms μ + 1) μ (Nat.lt_succ_self _) hK
end WH
