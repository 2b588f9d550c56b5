/-! THE ABSTRACT STATE: rules, parts; how both programs hold them -/
abbrev PD : Type := Int × Int × Bool
abbrev RD : Type := (Int × Int × Int × Int) × (Int × Int × Int × Int) × Nat × (Nat → PD)
abbrev rn (d : RD) : Int := d.1.1
abbrev rk (d : RD) : Int := d.1.2.1
abbrev rc (d : RD) : Int := d.1.2.2.1
abbrev rl (d : RD) : Int := d.1.2.2.2
abbrev rfw (d : RD) : Int := d.2.1.1
abbrev rtw (d : RD) : Int := d.2.1.2.1
abbrev rfh (d : RD) : Int := d.2.1.2.2.1
abbrev rth (d : RD) : Int := d.2.1.2.2.2
abbrev rm (d : RD) : Nat := d.2.2.1
abbrev rp (d : RD) : Nat → PD := d.2.2.2
def psz (p : PD) : Int := if p.2.2 then 0 else p.2.1
def pshr (p : PD) : Int := if p.2.2 then p.2.1 else 0
def sumN : Nat → (Nat → Int) → Int
  | 0, _ => 0
  | n + 1, f => sumN n f + f n
theorem sumN_congr {n : Nat} {f g : Nat → Int} (h : ∀ i, i < n → f i = g i) : sumN n f = sumN n g := by
  induction n with
  | zero => rfl
  | succ n ih =>
    show sumN n f + f n = sumN n g + g n
    rw [ih fun i hi => h i (by omega), h n (by omega)]
theorem sumN_le {n : Nat} {f : Nat → Int} {m : Int} (h : ∀ i, i < n → 0 ≤ f i ∧ f i ≤ m) : 0 ≤ sumN n f ∧ sumN n f ≤ n * m := by
  induction n with
  | zero => simp [sumN]
  | succ n ih =>
    have h1 := ih fun i hi => h i (by omega)
    have h2 := h n (by omega)
    have h3 : ((n + 1 : Nat) : Int) * m = n * m + m := by rw [Int.natCast_add, Int.add_mul]; simp
    show 0 ≤ sumN n f + f n ∧ sumN n f + f n ≤ _
    omega
def okP (p : PD) : Prop := (0 ≤ p.1 ∧ p.1 ≤ 7) ∧ 1 ≤ p.2.1 ∧ p.2.1 ≤ 20 ∧ (p.2.2 = true → p.2.1 ≤ 9)
theorem okP_sz {p : PD} (h : okP p) : 0 ≤ psz p ∧ psz p ≤ 20 := by
  unfold psz
  obtain ⟨-, h1, h2, -⟩ := h
  split <;> omega
theorem okP_shr {p : PD} (h : okP p) : 0 ≤ pshr p ∧ pshr p ≤ 9 := by
  unfold pshr
  obtain ⟨-, h1, h2, h3⟩ := h
  split
  · rename_i q
    have := h3 q
    omega
  · omega
def okR (d : RD) : Prop := (0 ≤ rn d ∧ rn d ≤ 7) ∧ (0 ≤ rk d ∧ rk d ≤ 4) ∧ (0 ≤ rc d ∧ rc d ≤ 99) ∧ (1 ≤ rfw d ∧ rfw d ≤ rtw d ∧ rtw d ≤ 20) ∧ (1 ≤ rfh d ∧ rfh d ≤ rth d ∧ rth d ≤ 20) ∧ (rk d = 0 → rm d = 0 ∧ 0 ≤ rl d ∧ rl d ≤ 25) ∧ (rk d ≠ 0 → rl d = -9 ∧ 1 ≤ rm d) ∧ rm d ≤ 6 ∧ (3 ≤ rk d → rm d = 1 ∧ (rp d 0).2.2 = false) ∧ ∀ i, i < rm d → okP (rp d i)
/-- the class's parts at cell a -/
def atP (μ : Nat → Nat → Int) (a num : Nat) (pt : Nat → PD) : Prop := μ a 3 = num ∧ num ≤ 6 ∧ μ a 4 = sumN num (fun i => psz (pt i)) ∧ μ a 5 = sumN num (fun i => pshr (pt i)) ∧ ∀ i, i < num → μ (a + 1) i = (pt i).1 ∧ μ (a + 2) i = psz (pt i) ∧ μ (a + 3) i = pshr (pt i)
def atR (μ : Nat → Nat → Int) (a : Nat) (d : RD) : Prop := (μ a 1 = rn d ∧ μ a 2 = rk d ∧ μ a 3 = rc d ∧ μ a 4 = rl d) ∧ (μ a 5 = rfw d ∧ μ a 6 = rtw d ∧ μ a 7 = rfh d ∧ μ a 8 = rth d) ∧ atP μ (a + 1) (rm d) (rp d)
/-- the reference's rule r -/
def atM (μ : Nat → Nat → Int) (r : Nat) (d : RD) : Prop := (μ 266 r = rn d ∧ μ 267 r = rk d ∧ μ 268 r = rc d ∧ μ 269 r = rl d ∧ μ 270 r = rm d) ∧ (μ 274 (4 * r) = rfw d ∧ μ 274 (4 * r + 1) = rtw d ∧ μ 274 (4 * r + 2) = rfh d ∧ μ 274 (4 * r + 3) = rth d) ∧ ∀ i, i < rm d → μ 271 (6 * r + i) = (rp d i).1 ∧ μ 272 (6 * r + i) = (rp d i).2.1 ∧ μ 273 (6 * r + i) = (if (rp d i).2.2 then 1 else 0)
abbrev GR : Type := Nat → RD
def okG (n : Nat) (R : GR) : Prop := n ≤ 40 ∧ ∀ r, r < n → okR (R r)
def IXg (μ : Nat → Nat → Int) (n : Nat) (R : GR) : Prop := μ 1 2 = n ∧ ∀ r, r < n → atR μ (7 + 5 * r) (R r)
def IMg (μ : Nat → Nat → Int) (n : Nat) (R : GR) : Prop := μ 265 0 = n ∧ ∀ r, r < n → atM μ r (R r)
def okC (cn : Nat) (cp : Nat → PD) : Prop := cn ≤ 6 ∧ ∀ i, i < cn → okP (cp i)
def IXc (μ : Nat → Nat → Int) (cn : Nat) (cp : Nat → PD) : Prop := atP μ 3 cn cp
def IMc (μ : Nat → Nat → Int) (cn : Nat) (cp : Nat → PD) : Prop := μ 265 10 = cn ∧ ∀ i, i < cn → μ 275 i = (cp i).1 ∧ μ 276 i = (cp i).2.1 ∧ μ 277 i = (if (cp i).2.2 then 1 else 0)
/-- f, and v at place n -/
def snoc {α : Type} (f : Nat → α) (n : Nat) (v : α) : Nat → α := fun i => if i = n then v else f i
theorem snoc_n {α : Type} (f : Nat → α) (n : Nat) (v : α) : snoc f n v n = v := if_pos rfl
theorem snoc_l {α : Type} {f : Nat → α} {n : Nat} {v : α} {i : Nat} (h : i < n) : snoc f n v i = f i := if_neg (by omega)
theorem snoc_id {α : Type} (f : Nat → α) (n : Nat) : snoc f n (f n) = f := by
  funext i
  unfold snoc
  split
  · rename_i h; rw [h]
  · rfl
theorem up_a' {μ : Nat → Nat → Int} {a k b : Nat} {v : Int} (h : b ≠ a) (j : Nat) : up μ a k v b j = μ b j := up_a h j
theorem up_k' {μ : Nat → Nat → Int} {a k j : Nat} {v : Int} (h : j ≠ k) (b : Nat) : up μ a k v b j = μ b j := up_k h b
theorem up_o' {μ : Nat → Nat → Int} {a k b : Nat} {v : Int} (h : b ≠ a) : up μ a k v b = μ b := up_o b h
theorem atP_congr {μ μ' : Nat → Nat → Int} {a num : Nat} {pt pt' : Nat → PD} (h : ∀ b, a ≤ b → b ≤ a + 3 → μ' b = μ b) (hp : ∀ i, i < num → pt i = pt' i) (H : atP μ a num pt) : atP μ' a num pt' := by
  obtain ⟨h1, h2, h3, h4, h5⟩ := H
  refine ⟨by rw [h a (by omega) (by omega)]; exact h1, h2, ?_, ?_, fun i hi => ?_⟩
  · rw [h a (by omega) (by omega), h3]; exact sumN_congr fun i hi => by rw [hp i hi]
  · rw [h a (by omega) (by omega), h4]; exact sumN_congr fun i hi => by rw [hp i hi]
  · rw [h (a + 1) (by omega) (by omega), h (a + 2) (by omega) (by omega), h (a + 3) (by omega) (by omega), ← hp i hi]; exact h5 i hi
theorem atR_congr {μ μ' : Nat → Nat → Int} {a : Nat} {d : RD} (h : ∀ b, a ≤ b → b < a + 5 → μ' b = μ b) (H : atR μ a d) : atR μ' a d := by
  obtain ⟨h1, h2, h3⟩ := H
  refine ⟨?_, ?_, atP_congr (fun b hb hb2 => h b (by omega) (by omega)) (fun _ _ => rfl) h3⟩
  · rw [h a (by omega) (by omega)]; exact h1
  · rw [h a (by omega) (by omega)]; exact h2
theorem IXg_congr {μ μ' : Nat → Nat → Int} {n : Nat} {R : GR} (hn : n ≤ 40) (h1 : μ' 1 = μ 1) (h : ∀ b, 7 ≤ b → b < 207 → μ' b = μ b) (H : IXg μ n R) : IXg μ' n R := ⟨by rw [h1]; exact H.1, fun r hr => atR_congr (fun b hb hb2 => h b (by omega) (by omega)) (H.2 r hr)⟩
theorem IXc_congr {μ μ' : Nat → Nat → Int} {cn : Nat} {cp : Nat → PD} (h : ∀ b, 3 ≤ b → b ≤ 6 → μ' b = μ b) (H : IXc μ cn cp) : IXc μ' cn cp := atP_congr (fun b h1 h2 => h b h1 (by omega)) (fun _ _ => rfl) H
theorem IMg_congr {μ μ' : Nat → Nat → Int} {n : Nat} {R : GR} (h0 : μ' 265 0 = μ 265 0) (h : ∀ b, 266 ≤ b → b ≤ 274 → μ' b = μ b) (H : IMg μ n R) : IMg μ' n R := by
  refine ⟨h0.trans H.1, fun r hr => ?_⟩
  have := H.2 r hr
  unfold atM at this ⊢
  rw [h 266 (by omega) (by omega), h 267 (by omega) (by omega), h 268 (by omega) (by omega), h 269 (by omega) (by omega), h 270 (by omega) (by omega), h 271 (by omega) (by omega), h 272 (by omega) (by omega), h 273 (by omega) (by omega), h 274 (by omega) (by omega)]
  exact this
theorem IMc_congr {μ μ' : Nat → Nat → Int} {cn : Nat} {cp : Nat → PD} (h0 : μ' 265 10 = μ 265 10) (h : ∀ b, 275 ≤ b → b ≤ 277 → μ' b = μ b) (H : IMc μ cn cp) : IMc μ' cn cp := by
  refine ⟨h0.trans H.1, fun i hi => ?_⟩
  rw [h 275 (by omega) (by omega), h 276 (by omega) (by omega), h 277 (by omega) (by omega)]
  exact H.2 i hi
section RU
variable {sh : List (Nat × Nat)} {ν : Nat → Nat → Option Nat} {μ : Nat → Nat → Int} {f s : Nat} {Q : xQ}
theorem c_X6_add (hW : WF sh ν f s) {a num : Nat} (hA : isParts a) {pt : Nat → PD} {x1 x2 x3 : Int} {p : PD} (hP : atP μ a num pt) (hn : num < 6) (h1 : x1 = p.1) (h2 : x2 = psz p) (h3 : x3 = pshr p) (hp : okP p) (hs : ∀ i, i < num → okP (pt i))
    (k : ∀ μ' : Nat → Nat → Int, atP μ' a (num + 1) (snoc pt num p) → (∀ b, b ≠ a → b ≠ a + 1 → b ≠ a + 2 → b ≠ a + 3 → μ' b = μ b) → Q none sh ν μ') : X mX6_add 0 [(0, vR a), (1, vI x1), (2, vI x2), (3, vI x3)] [] sh ν μ 0 0 Q := by
  obtain ⟨e3, e6, e4, e5, er⟩ := hP
  subst h1; subst h2; subst h3
  have b4 := sumN_le (n := num) (f := fun i => psz (pt i)) (m := 20) fun i hi => okP_sz (hs i hi)
  have b5 := sumN_le (n := num) (f := fun i => pshr (pt i)) (m := 9) fun i hi => okP_shr (hs i hi)
  have p4 := okP_sz hp
  have p5 := okP_shr hp
  refine g_X6_add_0 hW hA ⟨fun _ => ?_, fun h => absurd h (by omega)⟩
  rw [e3, e4, e5, Int.toNat_natCast, wi1 (by omega), w32_id (x := sumN num (fun i => psz (pt i)) + psz p) (by omega) (by omega), w32_id (x := sumN num (fun i => pshr (pt i)) + pshr p) (by omega) (by omega)]
  refine ⟨by omega, by omega, by omega, k _ ⟨?_, by omega, ?_, ?_, fun i hi => ?_⟩ fun b hb hb1 hb2 hb3 => ?_⟩
  · simp (disch := omega) only [up_s, up_a', up_k']
  · simp (disch := omega) only [up_s, up_a', up_k']
    show _ = sumN num _ + psz (snoc pt num p num)
    rw [sumN_congr (g := fun i => psz (snoc pt num p i)) fun i hi => by rw [snoc_l hi], snoc_n]
  · simp (disch := omega) only [up_s, up_a', up_k']
    show _ = sumN num _ + pshr (snoc pt num p num)
    rw [sumN_congr (g := fun i => pshr (snoc pt num p i)) fun i hi => by rw [snoc_l hi], snoc_n]
  · by_cases h : i = num
    · subst h
      rw [snoc_n]
      simp (disch := omega) only [up_s, up_a', up_k']
      exact ⟨trivial, trivial, trivial⟩
    · rw [snoc_l (by omega)]
      simp (disch := omega) only [up_s, up_a', up_k']
      exact er i (by omega)
  · simp (disch := omega) only [up_o']
theorem isParts_apart {a b : Nat} (ha : isParts a) (hb : isParts b) (h : a ≠ b) : a + 4 ≤ b ∨ b + 4 ≤ a := by
  rcases ha with rfl | ⟨r, -, rfl⟩ <;> rcases hb with rfl | ⟨q, -, rfl⟩ <;> omega
theorem c_X6_copy (hW : WF sh ν f s) {a b num : Nat} (hA : isParts a) (hB : isParts b) (hab : a ≠ b) {pt : Nat → PD} (hP : atP μ b num pt) (hs : ∀ i, i < num → okP (pt i))
    (k : ∀ μ' : Nat → Nat → Int, atP μ' a num pt → (∀ b, b ≠ a → b ≠ a + 1 → b ≠ a + 2 → b ≠ a + 3 → μ' b = μ b) → Q none sh ν μ') : X mX6_copy 0 [(0, vR a), (1, vR b)] [] sh ν μ 0 0 Q := by
  have hap := isParts_apart hA hB hab
  have h6 := hP.2.1
  refine g_X6_copy_0 hW hA hB ?_
  refine loop_up num (fun i m => atP m a i pt ∧ ∀ b, b ≠ a → b ≠ a + 1 → b ≠ a + 2 → b ≠ a + 3 → m b = μ b) (fun i m => X mX6_copy 6 [(0, vR a), (1, vR b), (2, vI (i : Nat))] [] sh ν m 0 0 Q) ?_ ?_ 0 _ (Nat.zero_le _) ⟨⟨?_, by omega, ?_, ?_, fun i hi => absurd hi (by omega)⟩, fun c hc _ _ _ => ?_⟩
  · rintro m ⟨h1, h2⟩
    have e : m b 3 = num := by rw [h2 b (by omega) (by omega) (by omega) (by omega)]; exact hP.1
    exact g_X6_copy_6 hW hA hB ⟨fun _ => k m h1 h2, fun h => absurd h (by omega)⟩
  · rintro i m hi ⟨h1, h2⟩ ih
    have e : m b 3 = num := by rw [h2 b (by omega) (by omega) (by omega) (by omega)]; exact hP.1
    refine g_X6_copy_6 hW hA hB ⟨fun h => absurd h (by omega), fun _ => ⟨fun h => absurd h (by omega), fun _ => ⟨by omega, by omega, by omega, ?_⟩⟩⟩
    rw [Int.toNat_natCast, h2 (b + 1) (by omega) (by omega) (by omega) (by omega), h2 (b + 2) (by omega) (by omega) (by omega) (by omega), h2 (b + 3) (by omega) (by omega) (by omega) (by omega)]
    obtain ⟨g1, g2, g3⟩ := hP.2.2.2.2 i hi
    refine c_X6_add hW hA h1 (by omega) (p := pt i) g1 g2 g3 (hs i hi) (fun j hj => hs j (by omega)) fun m' q1 q2 => ?_
    rw [snoc_id] at q1
    refine g_X6_copy_42 hW hA hB ?_
    rw [wi1 (by omega)]
    exact ih m' ⟨q1, fun c c0 c1 c2 c3 => (q2 c c0 c1 c2 c3).trans (h2 c c0 c1 c2 c3)⟩
  · simp (disch := omega) only [up_s, up_a', up_k']; rfl
  · simp (disch := omega) only [up_s, up_a', up_k']; rfl
  · simp (disch := omega) only [up_s, up_a', up_k']; rfl
  · simp (disch := omega) only [up_o']
end RU
