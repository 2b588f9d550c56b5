/-! how many rules pieces of lesser cells can bring -/
section FB
variable {e : EV} {d : RD} {x y w h : Nat}
theorem pc_two (ho : okR d) (hc : okCell e x y w h) (hh : holdsF d w h) (hk : rk d ≠ 0) (hN : pcN d w h ≠ 1) : 2 ≤ pcN d w h := by
  obtain ⟨h1, h2, h3, h4, h5⟩ := hc
  have hs : isSc (w : Int) (h : Int) := ⟨by omega, by omega⟩
  obtain ⟨t1, -⟩ := pc_total ho hs hh hk
  have hL : 1 ≤ rLn d w h := by unfold rLn; split <;> omega
  by_cases q : pcN d w h = 0
  · rw [q] at t1
    have : sumN 0 (pcL d w h) = 0 := rfl
    omega
  · omega
theorem sumN_const (n : Nat) (c : Int) : sumN n (fun _ => c) = n * c := by
  induction n with
  | zero => show (0 : Int) = 0 * c; rw [Int.zero_mul]
  | succ n ih =>
    show sumN n (fun _ => c) + c = _
    have h3 : ((n + 1 : Nat) : Int) * c = n * c + c := by rw [Int.natCast_add, Int.add_mul]; simp
    rw [ih, h3]
theorem few_base (ho : okR d) (hc : okCell e x y w h) (hh : holdsF d w h) (hk : rk d ≠ 0) (hN : pcN d w h ≠ 1) {g : Nat → Int} (hg : ∀ i, i < pcN d w h → g i ≤ 16 * (pcW d w h i * pcH d w h i) - 8) : 1 + sumN (pcN d w h) g ≤ 16 * ((w : Int) * h) - 15 := by
  have h2 := pc_two ho hc hh hk hN
  have h3 : sumN (pcN d w h) g ≤ sumN (pcN d w h) (fun i => 16 * (pcW d w h i * pcH d w h i) + (-8)) := sumN_mono fun i hi => by
    have := hg i hi
    show g i ≤ 16 * (pcW d w h i * pcH d w h i) + (-8)
    omega
  have h4 : sumN (pcN d w h) (fun i => 16 * (pcW d w h i * pcH d w h i) + (-8)) = 16 * ((w : Int) * h) + (pcN d w h : Int) * (-8) := by
    rw [sumN_add, sumN_mulc, pc_area ho hc hh hk, sumN_const]
  omega
end FB
