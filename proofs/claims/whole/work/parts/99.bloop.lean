/-! the law's loop, and its start -/
section LP
variable {G : LX} {k n : Nat}
theorem l_loop (hC : lC G) (hL : G.L ≤ 3072) (hk : k ≤ 600000) (hn : n ≤ 7302250) : ∀ (d i : Nat) (S : ST) (ν : Nat → Nat → Option Nat) (μ : Nat → Nat → Int), (G.L : Int) - 6 < ((i + 6 * d : Nat) : Int) → Wd S ν μ → LJ G 18 (lLS (i : Nat)) [] SH ν μ k n := by
  intro d
  induction d with
  | zero =>
    intro i S ν μ hd hw
    refine LJ.head (pc := 18) 0 1045 hC hL d_law_18 d_law_19 d_law_20 d_law_21 d_law_23 d_law_24 (by decide) rfl ⟨fun _ => ?_, fun h => absurd h (by omega)⟩
    exact LJ.ret1 (pc := 1045) hC rfl d_law_1045 d_law_1046 hk hn
  | succ d ih =>
    intro i S ν μ hd hw
    refine LJ.head (pc := 18) 0 1045 hC hL d_law_18 d_law_19 d_law_20 d_law_21 d_law_23 d_law_24 (by decide) rfl ⟨fun _ => ?_, fun h => ?_⟩
    · exact LJ.ret1 (pc := 1045) hC rfl d_law_1045 d_law_1046 hk hn
    have hi : 0 ≤ ((i : Nat) : Int) ∧ ((i : Nat) : Int) ≤ (G.L : Int) - 6 := ⟨by omega, h⟩
    have KK : ∀ S' ν' μ', Wd S' ν' μ' → LJ G 1039 (lLS (i : Nat)) [] SH ν' μ' k n := fun S' ν' μ' hw' => by
      refine LJ.iinc3 (pc := 1039) (y := 6) hC d_law_1039 (LJ.goto (pc := 1042) (tgt := 18) hC d_law_1042 (by decide) ?_)
      rw [show w32 (((i : Nat) : Int) + 6) = ((i + 6 : Nat) : Int) by rw [w32_id (by omega) (by omega)]; omega]
      exact ih (i + 6) S' ν' μ' (by omega) hw'
    refine LJ.arg0 (pc := 27) (x := ((i : Nat) : Int)) 0 hC d_law_27 d_law_28 d_law_29 rfl (by omega) hL rfl ?_
    refine LJ.iand31 (pc := 30) hC d_law_30 d_law_32 ?_
    generalize xand ((G.xs (((i : Nat) : Int)).toNat).toInt) 31 = t
    by_cases ht : t < 0 ∨ 23 < t
    · exact LJ.tsOut (pc := 33) 1039 hC d_law_33 ht (by decide) (KK S ν μ hw)
    have h24 : t = 0 ∨ t = 1 ∨ t = 2 ∨ t = 3 ∨ t = 4 ∨ t = 5 ∨ t = 6 ∨ t = 7 ∨ t = 8 ∨ t = 9 ∨ t = 10 ∨ t = 11 ∨ t = 12 ∨ t = 13 ∨ t = 14 ∨ t = 15 ∨ t = 16 ∨ t = 17 ∨ t = 18 ∨ t = 19 ∨ t = 20 ∨ t = 21 ∨ t = 22 ∨ t = 23 := by omega
    rcases h24 with rfl | rfl | rfl | rfl | rfl | rfl | rfl | rfl | rfl | rfl | rfl | rfl | rfl | rfl | rfl | rfl | rfl | rfl | rfl | rfl | rfl | rfl | rfl | rfl
    · exact LJ.tsIn (pc := 33) (off := 111) 144 hC d_law_33 (by decide) (by decide) rfl (by decide) (lo_fill hC hL hi hk hn hw KK)
    · exact LJ.tsIn (pc := 33) (off := 154) 187 hC d_law_33 (by decide) (by decide) rfl (by decide) (lo_part hC hL hi hk hn hw KK)
    · exact LJ.tsIn (pc := 33) (off := 213) 246 hC d_law_33 (by decide) (by decide) rfl (by decide) (lo_split hC hL hi hk hn hw KK)
    · exact LJ.tsIn (pc := 33) (off := 272) 305 hC d_law_33 (by decide) (by decide) rfl (by decide) (lo_repeat hC hL hi hk hn hw KK)
    · exact LJ.tsIn (pc := 33) (off := 351) 384 hC d_law_33 (by decide) (by decide) rfl (by decide) (lo_only hC hL hi hk hn hw KK)
    · exact LJ.tsIn (pc := 33) (off := 420) 453 hC d_law_33 (by decide) (by decide) rfl (by decide) (lo_clear hC hL hi hk hn hw KK)
    · exact LJ.tsIn (pc := 33) (off := 433) 466 hC d_law_33 (by decide) (by decide) rfl (by decide) (lo_rule hC hL hi hk hn hw KK)
    · exact LJ.tsIn (pc := 33) (off := 466) 499 hC d_law_33 (by decide) (by decide) rfl (by decide) (lo_holds hC hL hi hk hn hw KK)
    · exact LJ.tsIn (pc := 33) (off := 509) 542 hC d_law_33 (by decide) (by decide) rfl (by decide) (lo_piece hC hL hi hk hn hw KK)
    · exact LJ.tsIn (pc := 33) (off := 588) 621 hC d_law_33 (by decide) (by decide) rfl (by decide) (lo_draw hC hL hi hk hn hw KK)
    · exact LJ.tsIn (pc := 33) (off := 631) 664 hC d_law_33 (by decide) (by decide) rfl (by decide) (lo_at hC hL hi hk hn hw KK)
    · exact LJ.tsIn (pc := 33) (off := 664) 697 hC d_law_33 (by decide) (by decide) rfl (by decide) (lo_step hC hL hi hk hn hw KK)
    · exact LJ.tsIn (pc := 33) (off := 687) 720 hC d_law_33 (by decide) (by decide) rfl (by decide) (lo_drawn hC hL hi hk hn hw KK)
    · exact LJ.tsIn (pc := 33) (off := 700) 733 hC d_law_33 (by decide) (by decide) rfl (by decide) (lo_fault hC hL hi hk hn hw KK)
    · exact LJ.tsIn (pc := 33) (off := 713) 746 hC d_law_33 (by decide) (by decide) rfl (by decide) (lo_take hC hL hi hk hn hw KK)
    · exact LJ.tsIn (pc := 33) (off := 726) 759 hC d_law_33 (by decide) (by decide) rfl (by decide) (lo_ways hC hL hi hk hn hw KK)
    · exact LJ.tsIn (pc := 33) (off := 770) 803 hC d_law_33 (by decide) (by decide) rfl (by decide) (lo_least hC hL hi hk hn hw KK)
    · exact LJ.tsIn (pc := 33) (off := 813) 846 hC d_law_33 (by decide) (by decide) rfl (by decide) (lo_board hC hL hi hk hn hw KK)
    · exact LJ.tsIn (pc := 33) (off := 846) 879 hC d_law_33 (by decide) (by decide) rfl (by decide) (lo_put hC hL hi hk hn hw KK)
    · exact LJ.tsIn (pc := 33) (off := 879) 912 hC d_law_33 (by decide) (by decide) rfl (by decide) (lo_parses hC hL hi hk hn hw KK)
    · exact LJ.tsIn (pc := 33) (off := 893) 926 hC d_law_33 (by decide) (by decide) rfl (by decide) (lo_best hC hL hi hk hn hw KK)
    · exact LJ.tsIn (pc := 33) (off := 906) 939 hC d_law_33 (by decide) (by decide) rfl (by decide) (lo_bestStep hC hL hi hk hn hw KK)
    · exact LJ.tsIn (pc := 33) (off := 929) 962 hC d_law_33 (by decide) (by decide) rfl (by decide) (lo_stands hC hL hi hk hn hw KK)
    · exact LJ.tsIn (pc := 33) (off := 983) 1016 hC d_law_33 (by decide) (by decide) rfl (by decide) (lo_count hC hL hi hk hn hw KK)
end LP
