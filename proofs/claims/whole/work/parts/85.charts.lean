/-! constructors: the charts -/
def bs213 (l : Nat) : Nat := (l - 1)
def stt213 (l : Nat) : Nat := 1
theorem bs213_s : ∀ l, 1 ≤ l → l ≤ 20 → bs213 l + stt213 l = bs213 (l + 1) ∧ ∀ s, s < stt213 l → vsp 213 s l ∧ spN 213 s l = bs213 l + s ∧ spX 213 (bs213 l + s) = s ∧ spL 213 (bs213 l + s) = l ∧ bs213 l + s < 20 := by
  intro l h1 h2
  refine ⟨?_, fun s hs => ?_⟩
  · show (l - 1) + 1 = l + 1 - 1; omega
  · have hv : vsp 213 s l := ⟨h1, fun _ => h2, fun q => absurd q (by decide)⟩
    have h3 := spN_b (a := 213) mk_free hv
    have h0 : s = 0 := by unfold stt213 at hs; omega
    have h4 : spN 213 s l = bs213 l + s := by rw [h0]; rfl
    rw [h4] at h3
    refine ⟨hv, h4, ?_, h3.2.1, h3.1⟩
    rw [h0]; rfl
theorem s_X1_L213 {ν : Nat → Nat → Option Nat} {μ : Nat → Nat → Int} {Q : xQ} (h5 : ν 213 5 = some 224) (h6 : ν 213 6 = some 225) (e4 : μ 213 4 = 20) (k : ∀ m : Nat → Nat → Int, (∀ s, s < 20 → m 224 s = (spX 213 s : Nat) ∧ m 225 s = (spL 213 s : Nat)) → (∀ b, b ≠ 224 → b ≠ 225 → m b = μ b) → X mX1_init 174 [(0, vR 213)] [] (SH.take 226) ν m 12 251 Q) : X mX1_init 97 [(0, vR 213), (4, vI 0), (5, vI 20), (6, vI 0), (7, vI 1)] [] (SH.take 226) ν μ 12 251 Q := by
  have key := loop_up 21 (fun (l : Nat) (m : Nat → Nat → Int) => 1 ≤ l ∧ (∀ q, q < bs213 l → m 224 q = (spX 213 q : Nat) ∧ m 225 q = (spL 213 q : Nat)) ∧ ∀ b, b ≠ 224 → b ≠ 225 → m b = μ b) (fun l m => X mX1_init 97 [(0, vR 213), (4, vI 0), (5, vI 20), (6, vI (bs213 l : Nat)), (7, vI (l : Nat))] [] (SH.take 226) ν m 12 251 Q) ?_ ?_ 1 μ (by decide) ⟨Nat.le_refl _, fun s hs => absurd hs (Nat.not_lt_zero s), fun _ _ _ => rfl⟩
  · exact key
  · rintro m ⟨i1, i2, i3⟩
    generalize hsp : bs213 21 = sp at *
    refine X.iload (pc := 97) (i := 7) 4 dX1_init_97 rfl ?_
    refine X.iload (pc := 99) (i := 5) 2 dX1_init_99 rfl ?_
    refine X.icmp_gt (pc := 101) 174 dX1_init_101 (by decide) ⟨fun _ => ?_, fun q => absurd q (by omega)⟩
    refine X.pick [0] rfl (k m (fun s hs => i2 s ?_) i3)
    have h20 : sp = 20 := hsp.symm
    omega
  · rintro l m hl ⟨i1, i2, i3⟩ ih
    obtain ⟨t1, t2⟩ := bs213_s l i1 (by omega)
    have h4 : m 213 4 = 20 := by rw [i3 213 (by decide) (by decide)]; exact e4
    have h125 : ∀ x8 : Int, x8 = (stt213 l : Nat) → X mX1_init 125 [(0, vR 213), (4, vI 0), (5, vI 20), (6, vI (bs213 l : Nat)), (7, vI (l : Nat)), (8, vI x8), (9, vI 0)] [] (SH.take 226) ν m 12 251 Q := by
      rintro x8 hx8
      have key2 := loop_up (stt213 l) (fun (s : Nat) (m : Nat → Nat → Int) => (∀ q, q < bs213 l + s → m 224 q = (spX 213 q : Nat) ∧ m 225 q = (spL 213 q : Nat)) ∧ ∀ b, b ≠ 224 → b ≠ 225 → m b = μ b) (fun s m => X mX1_init 125 [(0, vR 213), (4, vI 0), (5, vI 20), (6, vI (bs213 l + s : Nat)), (7, vI (l : Nat)), (8, vI x8), (9, vI (s : Nat))] [] (SH.take 226) ν m 12 251 Q) ?_ ?_ 0 m (Nat.zero_le _) ⟨i2, i3⟩
      · exact key2
      · rintro m ⟨j2, j3⟩
        have h4 : m 213 4 = 20 := by rw [j3 213 (by decide) (by decide)]; exact e4
        generalize hs0 : stt213 l = s at *
        generalize hsp : bs213 l + s = sp at *
        refine X.iload (pc := 125) (i := 9) 6 dX1_init_125 rfl ?_
        refine X.iload (pc := 127) (i := 8) 5 dX1_init_127 rfl ?_
        refine X.icmp_ge (pc := 129) 168 dX1_init_129 (by decide) ⟨fun _ => ?_, fun q => absurd q (by omega)⟩
        refine X.iinc (pc := 168) (i := 7) (ls' := [(7, vI (w32 ((l : Nat) + 1))), (0, vR 213), (4, vI 0), (5, vI 20), (6, vI (sp : Nat)), (8, vI x8), (9, vI (s : Nat))]) 4 dX1_init_168 rfl (by decide) rfl ?_
        refine X.goto (pc := 171) (tgt := 97) dX1_init_171 (by decide) ?_
        rw [wi1 (by omega)]
        have := ih m ⟨by omega, by rw [← t1]; exact j2, j3⟩
        rw [← t1] at this
        exact X.pick [1, 2, 3, 4, 0] rfl this
      · rintro s m hs ⟨j2, j3⟩ ih2
        have h4 : m 213 4 = 20 := by rw [j3 213 (by decide) (by decide)]; exact e4
        obtain ⟨u1, u2, u3, u4, u5⟩ := t2 s hs
        have ih2' := ih2 (up (up m 224 (bs213 l + s) (s : Nat)) 225 (bs213 l + s) (l : Nat))
        generalize hsp : bs213 l + s = sp at *
        have hi : 0 ≤ (sp : Int) ∧ (sp : Int) < (20 : Nat) := tI u5
        refine X.iload (pc := 125) (i := 9) 6 dX1_init_125 rfl ?_
        refine X.iload (pc := 127) (i := 8) 5 dX1_init_127 rfl ?_
        refine X.icmp_ge (pc := 129) 168 dX1_init_129 (by decide) ⟨fun q => absurd q (by omega), fun _ => ?_⟩
        refine X.iload (pc := 132) (i := 6) 3 dX1_init_132 rfl ?_
        refine X.aload_n (pc := 134) (i := 0) 0 dX1_init_134 rfl rfl ?_
        refine X.getI (pc := 135) dX1_init_135 fl_X1_37 rfl (shT (by decide) rfl) ?_
        refine X.topI (y := 20) (h4) ?_
        refine X.icmp_ge (pc := 138) 168 dX1_init_138 (by decide) ⟨fun q => absurd q (by omega), fun _ => ?_⟩
        refine X.aload_n (pc := 141) (i := 0) 0 dX1_init_141 rfl rfl ?_
        refine X.getR (pc := 142) (b := 224) dX1_init_142 fl_X1_41 rfl (shT (by decide) rfl) (h5) ?_
        refine X.iload (pc := 145) (i := 6) 3 dX1_init_145 rfl ?_
        refine X.iload (pc := 147) (i := 9) 6 dX1_init_147 rfl ?_
        refine X.iastore (pc := 149) dX1_init_149 (shT (by decide) rfl) hi ?_
        refine X.aload_n (pc := 150) (i := 0) 0 dX1_init_150 rfl rfl ?_
        refine X.getR (pc := 151) (b := 225) dX1_init_151 fl_X1_45 rfl (shT (by decide) rfl) (h6) ?_
        refine X.iload (pc := 154) (i := 6) 3 dX1_init_154 rfl ?_
        refine X.iload (pc := 156) (i := 7) 4 dX1_init_156 rfl ?_
        refine X.iastore (pc := 158) dX1_init_158 (shT (by decide) rfl) hi ?_
        refine X.iinc (pc := 159) (i := 6) (ls' := [(6, vI (w32 ((sp : Nat) + 1))), (0, vR 213), (4, vI 0), (5, vI 20), (7, vI (l : Nat)), (8, vI x8), (9, vI (s : Nat))]) 3 dX1_init_159 rfl (by decide) rfl ?_
        refine X.iinc (pc := 162) (i := 9) (ls' := [(9, vI (w32 ((s : Nat) + 1))), (6, vI (w32 ((sp : Nat) + 1))), (0, vR 213), (4, vI 0), (5, vI 20), (7, vI (l : Nat)), (8, vI x8)]) 6 dX1_init_162 rfl (by decide) rfl ?_
        refine X.goto (pc := 165) (tgt := 125) dX1_init_165 (by decide) ?_
        rw [wi1 (i := sp) (by omega), wi1 (i := s) (by omega), Int.toNat_natCast]
        refine X.pick [2, 3, 4, 1, 5, 6, 0] rfl ?_
        have hnx : bs213 l + (s + 1) = sp + 1 := by omega
        rw [hnx] at ih2'
        refine ih2' ⟨fun s' hs' => ?_, fun b b0 b1 => by rw [up_o' b1, up_o' b0]; exact j3 b b0 b1⟩
        by_cases e : s' = sp
        · subst e
          rw [u3, u4, up_a' (by decide), up_s, up_s]; exact ⟨rfl, rfl⟩
        · rw [up_a' (by decide), up_k' e, up_k' e, up_a' (by decide)]
          exact j2 s' (by omega)
    generalize hsp : bs213 l = sp at *
    refine X.iload (pc := 97) (i := 7) 4 dX1_init_97 rfl ?_
    refine X.iload (pc := 99) (i := 5) 2 dX1_init_99 rfl ?_
    refine X.icmp_gt (pc := 101) 174 dX1_init_101 (by decide) ⟨fun q => absurd q (by omega), fun _ => ?_⟩
    refine X.iload (pc := 104) (i := 4) 1 dX1_init_104 rfl ?_
    refine X.if_eq (pc := 106) 119 dX1_init_106 (by decide) ⟨fun _ => ?_, fun q9 => absurd q9 (by decide)⟩
    refine X.iconst (pc := 119) dX1_init_119 ⟨by decide, by decide⟩ ?_
    refine X.istore (pc := 120) (i := 8) (ls' := [(8, vI 1), (0, vR 213), (4, vI 0), (5, vI 20), (6, vI (sp : Nat)), (7, vI (l : Nat))]) dX1_init_120 (by decide) rfl ?_
    refine X.iconst (pc := 122) dX1_init_122 ⟨by decide, by decide⟩ ?_
    refine X.istore (pc := 123) (i := 9) (ls' := [(9, vI 0), (8, vI 1), (0, vR 213), (4, vI 0), (5, vI 20), (6, vI (sp : Nat)), (7, vI (l : Nat))]) dX1_init_123 (by decide) rfl ?_
    refine X.pick [2, 3, 4, 5, 6, 1, 0] rfl (h125 _ ?_)
    rfl
theorem s_X1_T213 {ν : Nat → Nat → Option Nat} {μ : Nat → Nat → Int} {Q : xQ} (e4 : μ 213 4 = 20) (hF : Fr 226 ν μ) (h : Q none (SH.take 231) ((upr (upr (upr (upr (upr ν 213 7 (some 226)) 213 8 (some 227)) 213 9 (some 228)) 213 10 (some 229)) 213 11 (some 230))) (μ)) : X mX1_init 174 [(0, vR 213)] [] (SH.take 226) ν μ 12 251 Q := by
  refine X.aload_n (pc := 174) (i := 0) 0 dX1_init_174 rfl rfl ?_
  refine X.aload_n (pc := 175) (i := 0) 0 dX1_init_175 rfl rfl ?_
  refine X.getI (pc := 176) dX1_init_176 fl_X1_37 rfl (shT (by decide) rfl) ?_
  refine X.topI (y := 20) (e4) ?_
  refine X.aload_n (pc := 179) (i := 0) 0 dX1_init_179 rfl rfl ?_
  refine X.getI (pc := 180) dX1_init_180 fl_X1_37 rfl (shT (by decide) rfl) ?_
  refine X.topI (y := 20) (e4) ?_
  refine X.imul (pc := 183) dX1_init_183 ?_
  refine X.topI (y := 400) (by decide) ?_
  refine X.topI (y := ((400 : Nat) : Int)) rfl ?_
  refine T.newa (pc := 184) (t := 0) (N := 400) (K := 226) (K' := 227) (k' := 13) (n' := 651) dX1_init_184 (by decide) rfl ac_int (by decide) rfl hF rfl rfl rfl (Nat.le_of_ble_eq_true rfl) (Nat.le_of_ble_eq_true rfl) ?_
  refine X.putR (pc := 186) dX1_init_186 fl_X1_48 rfl (fun _ => ⟨rfl, rfl⟩) (shT (by decide) rfl) ?_
  refine X.aload_n (pc := 189) (i := 0) 0 dX1_init_189 rfl rfl ?_
  refine X.aload_n (pc := 190) (i := 0) 0 dX1_init_190 rfl rfl ?_
  refine X.getI (pc := 191) dX1_init_191 fl_X1_37 rfl (shT (by decide) rfl) ?_
  refine X.topI (y := 20) (e4) ?_
  refine X.aload_n (pc := 194) (i := 0) 0 dX1_init_194 rfl rfl ?_
  refine X.getI (pc := 195) dX1_init_195 fl_X1_37 rfl (shT (by decide) rfl) ?_
  refine X.topI (y := 20) (e4) ?_
  refine X.imul (pc := 198) dX1_init_198 ?_
  refine X.topI (y := 400) (by decide) ?_
  refine X.topI (y := ((400 : Nat) : Int)) rfl ?_
  refine T.newa (pc := 199) (t := 0) (N := 400) (K := 227) (K' := 228) (k' := 14) (n' := 1051) dX1_init_199 (by decide) rfl ac_int (by decide) rfl (Fr_r (by omega) (Fr_m (K' := 227) (by omega) hF)) rfl rfl rfl (Nat.le_of_ble_eq_true rfl) (Nat.le_of_ble_eq_true rfl) ?_
  refine X.putR (pc := 201) dX1_init_201 fl_X1_51 rfl (fun _ => ⟨rfl, rfl⟩) (shT (by decide) rfl) ?_
  refine X.aload_n (pc := 204) (i := 0) 0 dX1_init_204 rfl rfl ?_
  refine X.aload_n (pc := 205) (i := 0) 0 dX1_init_205 rfl rfl ?_
  refine X.getI (pc := 206) dX1_init_206 fl_X1_37 rfl (shT (by decide) rfl) ?_
  refine X.topI (y := 20) (e4) ?_
  refine X.aload_n (pc := 209) (i := 0) 0 dX1_init_209 rfl rfl ?_
  refine X.getI (pc := 210) dX1_init_210 fl_X1_37 rfl (shT (by decide) rfl) ?_
  refine X.topI (y := 20) (e4) ?_
  refine X.imul (pc := 213) dX1_init_213 ?_
  refine X.topI (y := 400) (by decide) ?_
  refine X.bipush (pc := 214) (y := 8) dX1_init_214 rfl ⟨by decide, by decide⟩ ?_
  refine X.imul (pc := 216) dX1_init_216 ?_
  refine X.topI (y := 3200) (by decide) ?_
  refine X.topI (y := ((3200 : Nat) : Int)) rfl ?_
  refine T.newa (pc := 217) (t := 1) (N := 3200) (K := 228) (K' := 229) (k' := 15) (n' := 4251) dX1_init_217 (by decide) rfl ac_long (by decide) rfl (Fr_r (by omega) (Fr_m (K' := 228) (by omega) (Fr_r (by omega) (Fr_m (K' := 227) (by omega) hF)))) rfl rfl rfl (Nat.le_of_ble_eq_true rfl) (Nat.le_of_ble_eq_true rfl) ?_
  refine X.putR (pc := 219) dX1_init_219 fl_X1_54 rfl (fun _ => ⟨rfl, rfl⟩) (shT (by decide) rfl) ?_
  refine X.aload_n (pc := 222) (i := 0) 0 dX1_init_222 rfl rfl ?_
  refine X.aload_n (pc := 223) (i := 0) 0 dX1_init_223 rfl rfl ?_
  refine X.getI (pc := 224) dX1_init_224 fl_X1_37 rfl (shT (by decide) rfl) ?_
  refine X.topI (y := 20) (e4) ?_
  refine X.aload_n (pc := 227) (i := 0) 0 dX1_init_227 rfl rfl ?_
  refine X.getI (pc := 228) dX1_init_228 fl_X1_37 rfl (shT (by decide) rfl) ?_
  refine X.topI (y := 20) (e4) ?_
  refine X.imul (pc := 231) dX1_init_231 ?_
  refine X.topI (y := 400) (by decide) ?_
  refine X.bipush (pc := 232) (y := 8) dX1_init_232 rfl ⟨by decide, by decide⟩ ?_
  refine X.imul (pc := 234) dX1_init_234 ?_
  refine X.topI (y := 3200) (by decide) ?_
  refine X.topI (y := ((3200 : Nat) : Int)) rfl ?_
  refine T.newa (pc := 235) (t := 1) (N := 3200) (K := 229) (K' := 230) (k' := 16) (n' := 7451) dX1_init_235 (by decide) rfl ac_long (by decide) rfl (Fr_r (by omega) (Fr_m (K' := 229) (by omega) (Fr_r (by omega) (Fr_m (K' := 228) (by omega) (Fr_r (by omega) (Fr_m (K' := 227) (by omega) hF)))))) rfl rfl rfl (Nat.le_of_ble_eq_true rfl) (Nat.le_of_ble_eq_true rfl) ?_
  refine X.putR (pc := 237) dX1_init_237 fl_X1_58 rfl (fun _ => ⟨rfl, rfl⟩) (shT (by decide) rfl) ?_
  refine X.aload_n (pc := 240) (i := 0) 0 dX1_init_240 rfl rfl ?_
  refine X.aload_n (pc := 241) (i := 0) 0 dX1_init_241 rfl rfl ?_
  refine X.getI (pc := 242) dX1_init_242 fl_X1_37 rfl (shT (by decide) rfl) ?_
  refine X.topI (y := 20) (e4) ?_
  refine X.aload_n (pc := 245) (i := 0) 0 dX1_init_245 rfl rfl ?_
  refine X.getI (pc := 246) dX1_init_246 fl_X1_37 rfl (shT (by decide) rfl) ?_
  refine X.topI (y := 20) (e4) ?_
  refine X.imul (pc := 249) dX1_init_249 ?_
  refine X.topI (y := 400) (by decide) ?_
  refine X.bipush (pc := 250) (y := 8) dX1_init_250 rfl ⟨by decide, by decide⟩ ?_
  refine X.imul (pc := 252) dX1_init_252 ?_
  refine X.topI (y := 3200) (by decide) ?_
  refine X.topI (y := ((3200 : Nat) : Int)) rfl ?_
  refine T.newa (pc := 253) (t := 2) (N := 3200) (K := 230) (K' := 231) (k' := 17) (n' := 10651) dX1_init_253 (by decide) rfl ac_byte (by decide) rfl (Fr_r (by omega) (Fr_m (K' := 230) (by omega) (Fr_r (by omega) (Fr_m (K' := 229) (by omega) (Fr_r (by omega) (Fr_m (K' := 228) (by omega) (Fr_r (by omega) (Fr_m (K' := 227) (by omega) hF)))))))) rfl rfl rfl (Nat.le_of_ble_eq_true rfl) (Nat.le_of_ble_eq_true rfl) ?_
  refine X.putR (pc := 255) dX1_init_255 fl_X1_61 rfl (fun _ => ⟨rfl, rfl⟩) (shT (by decide) rfl) ?_
  exact X.vret (pc := 258) dX1_init_258 rfl (Nat.le_of_ble_eq_true rfl) (Nat.le_of_ble_eq_true rfl) h
def nuA213 (ν : Nat → Nat → Option Nat) : Nat → Nat → Option Nat := (upr (upr (upr (upr (upr (upr (upr (upr (upr (upr (upr (upr (upr (upr (upr ν 214 0 (some 215)) 214 1 (some 216)) 214 2 (some 217)) 214 3 (some 218)) 214 4 (some 219)) 214 5 (some 220)) 214 6 (some 221)) 214 7 (some 222)) 214 8 (some 223)) 213 12 (some 214)) 213 0 (some 1)) 213 1 (some 207)) 213 2 (some 211)) 213 5 (some 224)) 213 6 (some 225))
def muA213 (μ : Nat → Nat → Int) : Nat → Nat → Int := (up (up (up (up (up μ 214 9 0) 214 10 0) 213 13 0) 213 3 0) 213 4 20)
def nuT213 (ν : Nat → Nat → Option Nat) : Nat → Nat → Option Nat := (upr (upr (upr (upr (upr ν 213 7 (some 226)) 213 8 (some 227)) 213 9 (some 228)) 213 10 (some 229)) 213 11 (some 230))
theorem s_X1_A213 {ν : Nat → Nat → Option Nat} {μ : Nat → Nat → Int} {Q : xQ} (hF : Fr 214 ν μ) (h : X mX1_init 97 [(0, vR 213), (4, vI 0), (5, vI 20), (6, vI 0), (7, vI 1)] [] (SH.take 226) (nuA213 ν) (muA213 μ) 12 251 Q) : X mX1_init 0 [(0, vR 213), (1, vR 1), (2, vR 207), (3, vR 211), (4, vI 0)] [] (SH.take 214) ν μ 0 0 Q := by
  refine X.aload_n (pc := 0) (i := 0) 0 dX1_init_0 rfl rfl ?_
  refine X.objInit (pc := 1) dX1_init_1 lk_X1_3 w_oi w_oc (by decide) (Nat.le_of_ble_eq_true rfl) ?_
  refine X.aload_n (pc := 4) (i := 0) 0 dX1_init_4 rfl rfl ?_
  refine T.new (pc := 5) (ci := 4) (K := 214) (K' := 215) (k' := 1) (n' := 11) dX1_init_5 nl_X1_9 rfl hF rfl rfl rfl (Nat.le_of_ble_eq_true rfl) (Nat.le_of_ble_eq_true rfl) ?_
  refine X.dup (pc := 8) dX1_init_8 rfl ?_
  refine X.callIN (pc := 9) (vs := []) (st := [vR 214, vR 213]) dX1_init_9 rfl okM_X4_init rfl nk_X1_11 inst_X4_init rfl rfl ⟨⟨by decide, by decide⟩, ⟨by decide, by decide⟩, Nat.le_of_ble_eq_true rfl⟩ (Nat.le_of_ble_eq_true rfl) ?_
  refine c_X4_init (a := 214) (K := 215) rfl (by omega) rfl rfl rfl rfl rfl rfl rfl rfl rfl (Fr_m (K' := 215) (by omega) hF) ?_
  refine X.nrm (pc' := 12) (ls' := [(0, vR 213), (1, vR 1), (2, vR 207), (3, vR 211), (4, vI 0)]) (st' := [vR 214, vR 213]) (k' := 10) (n' := 211) rfl rfl rfl rfl rfl ?_
  refine X.putR (pc := 12) dX1_init_12 fl_X1_12 rfl (fun _ => ⟨rfl, rfl⟩) (shT (by decide) rfl) ?_
  refine X.aload_n (pc := 15) (i := 0) 0 dX1_init_15 rfl rfl ?_
  refine X.iconst (pc := 16) dX1_init_16 ⟨by decide, by decide⟩ ?_
  refine X.putI (pc := 17) dX1_init_17 fl_X1_18 rfl (fun h9 => by cases h9) (shT (by decide) rfl) (Or.inr (Or.inl rfl)) ?_
  refine X.aload_n (pc := 20) (i := 0) 0 dX1_init_20 rfl rfl ?_
  refine X.aload_n (pc := 21) (i := 1) 1 dX1_init_21 rfl rfl ?_
  refine X.putR (pc := 22) dX1_init_22 fl_X1_22 rfl (fun _ => ⟨rfl, rfl⟩) (shT (by decide) rfl) ?_
  refine X.aload_n (pc := 25) (i := 0) 0 dX1_init_25 rfl rfl ?_
  refine X.aload_n (pc := 26) (i := 2) 2 dX1_init_26 rfl rfl ?_
  refine X.putR (pc := 27) dX1_init_27 fl_X1_26 rfl (fun _ => ⟨rfl, rfl⟩) (shT (by decide) rfl) ?_
  refine X.aload_n (pc := 30) (i := 0) 0 dX1_init_30 rfl rfl ?_
  refine X.aload_n (pc := 31) (i := 3) 3 dX1_init_31 rfl rfl ?_
  refine X.putR (pc := 32) dX1_init_32 fl_X1_30 rfl (fun _ => ⟨rfl, rfl⟩) (shT (by decide) rfl) ?_
  refine X.aload_n (pc := 35) (i := 0) 0 dX1_init_35 rfl rfl ?_
  refine X.iload (pc := 36) (i := 4) 4 dX1_init_36 rfl ?_
  refine X.putI (pc := 38) dX1_init_38 fl_X1_34 rfl (fun _ => ⟨rfl, rfl⟩) (shT (by decide) rfl) (Or.inr (Or.inl rfl)) ?_
  refine X.aload_n (pc := 41) (i := 0) 0 dX1_init_41 rfl rfl ?_
  refine X.iload (pc := 42) (i := 4) 4 dX1_init_42 rfl ?_
  refine X.if_eq (pc := 44) 52 dX1_init_44 (by decide) ⟨fun _ => ?_, fun q9 => absurd q9 (by decide)⟩
  refine X.bipush (pc := 52) (y := 20) dX1_init_52 rfl ⟨by decide, by decide⟩ ?_
  refine X.putI (pc := 54) dX1_init_54 fl_X1_37 rfl (fun _ => ⟨rfl, rfl⟩) (shT (by decide) rfl) (Or.inl rfl) ?_
  refine X.aload_n (pc := 57) (i := 0) 0 dX1_init_57 rfl rfl ?_
  refine X.aload_n (pc := 58) (i := 0) 0 dX1_init_58 rfl rfl ?_
  refine X.getI (pc := 59) dX1_init_59 fl_X1_37 rfl (shT (by decide) rfl) ?_
  refine X.topI (y := 20) (by simp (disch := decide) only [up_s, up_a', up_k']) ?_
  refine X.topI (y := ((20 : Nat) : Int)) rfl ?_
  refine T.newa (pc := 62) (t := 0) (N := 20) (K := 224) (K' := 225) (k' := 11) (n' := 231) dX1_init_62 (by decide) rfl ac_int (by decide) rfl (Fr_i (by omega) (Fr_i (by omega) (Fr_r (by omega) (Fr_r (by omega) (Fr_r (by omega) (Fr_i (by omega) (Fr_r (by omega) (Fr_i (by omega) (Fr_i (by omega) (Fr_r (by omega) (Fr_r (by omega) (Fr_r (by omega) (Fr_r (by omega) (Fr_r (by omega) (Fr_r (by omega) (Fr_r (by omega) (Fr_r (by omega) (Fr_r (by omega) (Fr_m (K' := 224) (by omega) (Fr_m (K' := 215) (by omega) hF)))))))))))))))))))) rfl rfl rfl (Nat.le_of_ble_eq_true rfl) (Nat.le_of_ble_eq_true rfl) ?_
  refine X.putR (pc := 64) dX1_init_64 fl_X1_41 rfl (fun _ => ⟨rfl, rfl⟩) (shT (by decide) rfl) ?_
  refine X.aload_n (pc := 67) (i := 0) 0 dX1_init_67 rfl rfl ?_
  refine X.aload_n (pc := 68) (i := 0) 0 dX1_init_68 rfl rfl ?_
  refine X.getI (pc := 69) dX1_init_69 fl_X1_37 rfl (shT (by decide) rfl) ?_
  refine X.topI (y := 20) (by simp (disch := decide) only [up_s, up_a', up_k']) ?_
  refine X.topI (y := ((20 : Nat) : Int)) rfl ?_
  refine T.newa (pc := 72) (t := 0) (N := 20) (K := 225) (K' := 226) (k' := 12) (n' := 251) dX1_init_72 (by decide) rfl ac_int (by decide) rfl (Fr_r (by omega) (Fr_m (K' := 225) (by omega) (Fr_i (by omega) (Fr_i (by omega) (Fr_r (by omega) (Fr_r (by omega) (Fr_r (by omega) (Fr_i (by omega) (Fr_r (by omega) (Fr_i (by omega) (Fr_i (by omega) (Fr_r (by omega) (Fr_r (by omega) (Fr_r (by omega) (Fr_r (by omega) (Fr_r (by omega) (Fr_r (by omega) (Fr_r (by omega) (Fr_r (by omega) (Fr_r (by omega) (Fr_m (K' := 224) (by omega) (Fr_m (K' := 215) (by omega) hF)))))))))))))))))))))) rfl rfl rfl (Nat.le_of_ble_eq_true rfl) (Nat.le_of_ble_eq_true rfl) ?_
  refine X.putR (pc := 74) dX1_init_74 fl_X1_45 rfl (fun _ => ⟨rfl, rfl⟩) (shT (by decide) rfl) ?_
  refine X.iload (pc := 77) (i := 4) 4 dX1_init_77 rfl ?_
  refine X.if_eq (pc := 79) 87 dX1_init_79 (by decide) ⟨fun _ => ?_, fun q9 => absurd q9 (by decide)⟩
  refine X.bipush (pc := 87) (y := 20) dX1_init_87 rfl ⟨by decide, by decide⟩ ?_
  refine X.istore (pc := 89) (i := 5) (ls' := [(5, vI 20), (0, vR 213), (1, vR 1), (2, vR 207), (3, vR 211), (4, vI 0)]) dX1_init_89 (by decide) rfl ?_
  refine X.iconst (pc := 91) dX1_init_91 ⟨by decide, by decide⟩ ?_
  refine X.istore (pc := 92) (i := 6) (ls' := [(6, vI 0), (5, vI 20), (0, vR 213), (1, vR 1), (2, vR 207), (3, vR 211), (4, vI 0)]) dX1_init_92 (by decide) rfl ?_
  refine X.iconst (pc := 94) dX1_init_94 ⟨by decide, by decide⟩ ?_
  refine X.istore (pc := 95) (i := 7) (ls' := [(7, vI 1), (6, vI 0), (5, vI 20), (0, vR 213), (1, vR 1), (2, vR 207), (3, vR 211), (4, vI 0)]) dX1_init_95 (by decide) rfl ?_
  exact X.pick [3, 7, 2, 1, 0] rfl h
def bs231 (l : Nat) : Nat := ((l - 1) * (20 - l) / 2)
def stt231 (l : Nat) : Nat := 10 - l
theorem bs231_s : ∀ l, 1 ≤ l → l ≤ 9 → bs231 l + stt231 l = bs231 (l + 1) ∧ ∀ s, s < stt231 l → vsp 231 s l ∧ spN 231 s l = bs231 l + s ∧ spX 231 (bs231 l + s) = s ∧ spL 231 (bs231 l + s) = l ∧ bs231 l + s < 45 := by
  intro l h1 h2
  refine ⟨?_, fun s hs => ?_⟩
  · show (l - 1) * (20 - l) / 2 + (10 - l) = (l + 1 - 1) * (20 - (l + 1)) / 2
    rcases show l = 1 ∨ l = 2 ∨ l = 3 ∨ l = 4 ∨ l = 5 ∨ l = 6 ∨ l = 7 ∨ l = 8 ∨ l = 9 by omega with rfl | rfl | rfl | rfl | rfl | rfl | rfl | rfl | rfl <;> rfl
  · have hv : vsp 231 s l := ⟨h1, fun q => absurd q (by decide), fun _ => by unfold stt231 at hs; omega⟩
    have h3 := spN_b (a := 231) mk_bound hv
    have h4 : spN 231 s l = bs231 l + s := rfl
    rw [h4] at h3
    refine ⟨hv, h4, ?_, h3.2.1, h3.1⟩
    exact h3.2.2 rfl
theorem s_X1_L231 {ν : Nat → Nat → Option Nat} {μ : Nat → Nat → Int} {Q : xQ} (h5 : ν 231 5 = some 242) (h6 : ν 231 6 = some 243) (e4 : μ 231 4 = 45) (k : ∀ m : Nat → Nat → Int, (∀ s, s < 45 → m 242 s = (spX 231 s : Nat) ∧ m 243 s = (spL 231 s : Nat)) → (∀ b, b ≠ 242 → b ≠ 243 → m b = μ b) → X mX1_init 174 [(0, vR 231)] [] (SH.take 244) ν m 12 301 Q) : X mX1_init 97 [(0, vR 231), (4, vI 1), (5, vI 9), (6, vI 0), (7, vI 1)] [] (SH.take 244) ν μ 12 301 Q := by
  have key := loop_up 10 (fun (l : Nat) (m : Nat → Nat → Int) => 1 ≤ l ∧ (∀ q, q < bs231 l → m 242 q = (spX 231 q : Nat) ∧ m 243 q = (spL 231 q : Nat)) ∧ ∀ b, b ≠ 242 → b ≠ 243 → m b = μ b) (fun l m => X mX1_init 97 [(0, vR 231), (4, vI 1), (5, vI 9), (6, vI (bs231 l : Nat)), (7, vI (l : Nat))] [] (SH.take 244) ν m 12 301 Q) ?_ ?_ 1 μ (by decide) ⟨Nat.le_refl _, fun s hs => absurd hs (Nat.not_lt_zero s), fun _ _ _ => rfl⟩
  · exact key
  · rintro m ⟨i1, i2, i3⟩
    generalize hsp : bs231 10 = sp at *
    refine X.iload (pc := 97) (i := 7) 4 dX1_init_97 rfl ?_
    refine X.iload (pc := 99) (i := 5) 2 dX1_init_99 rfl ?_
    refine X.icmp_gt (pc := 101) 174 dX1_init_101 (by decide) ⟨fun _ => ?_, fun q => absurd q (by omega)⟩
    refine X.pick [0] rfl (k m (fun s hs => i2 s ?_) i3)
    have h20 : sp = 45 := hsp.symm
    omega
  · rintro l m hl ⟨i1, i2, i3⟩ ih
    obtain ⟨t1, t2⟩ := bs231_s l i1 (by omega)
    have h4 : m 231 4 = 45 := by rw [i3 231 (by decide) (by decide)]; exact e4
    have h125 : ∀ x8 : Int, x8 = (stt231 l : Nat) → X mX1_init 125 [(0, vR 231), (4, vI 1), (5, vI 9), (6, vI (bs231 l : Nat)), (7, vI (l : Nat)), (8, vI x8), (9, vI 0)] [] (SH.take 244) ν m 12 301 Q := by
      rintro x8 hx8
      have key2 := loop_up (stt231 l) (fun (s : Nat) (m : Nat → Nat → Int) => (∀ q, q < bs231 l + s → m 242 q = (spX 231 q : Nat) ∧ m 243 q = (spL 231 q : Nat)) ∧ ∀ b, b ≠ 242 → b ≠ 243 → m b = μ b) (fun s m => X mX1_init 125 [(0, vR 231), (4, vI 1), (5, vI 9), (6, vI (bs231 l + s : Nat)), (7, vI (l : Nat)), (8, vI x8), (9, vI (s : Nat))] [] (SH.take 244) ν m 12 301 Q) ?_ ?_ 0 m (Nat.zero_le _) ⟨i2, i3⟩
      · exact key2
      · rintro m ⟨j2, j3⟩
        have h4 : m 231 4 = 45 := by rw [j3 231 (by decide) (by decide)]; exact e4
        generalize hs0 : stt231 l = s at *
        generalize hsp : bs231 l + s = sp at *
        refine X.iload (pc := 125) (i := 9) 6 dX1_init_125 rfl ?_
        refine X.iload (pc := 127) (i := 8) 5 dX1_init_127 rfl ?_
        refine X.icmp_ge (pc := 129) 168 dX1_init_129 (by decide) ⟨fun _ => ?_, fun q => absurd q (by omega)⟩
        refine X.iinc (pc := 168) (i := 7) (ls' := [(7, vI (w32 ((l : Nat) + 1))), (0, vR 231), (4, vI 1), (5, vI 9), (6, vI (sp : Nat)), (8, vI x8), (9, vI (s : Nat))]) 4 dX1_init_168 rfl (by decide) rfl ?_
        refine X.goto (pc := 171) (tgt := 97) dX1_init_171 (by decide) ?_
        rw [wi1 (by omega)]
        have := ih m ⟨by omega, by rw [← t1]; exact j2, j3⟩
        rw [← t1] at this
        exact X.pick [1, 2, 3, 4, 0] rfl this
      · rintro s m hs ⟨j2, j3⟩ ih2
        have h4 : m 231 4 = 45 := by rw [j3 231 (by decide) (by decide)]; exact e4
        obtain ⟨u1, u2, u3, u4, u5⟩ := t2 s hs
        have ih2' := ih2 (up (up m 242 (bs231 l + s) (s : Nat)) 243 (bs231 l + s) (l : Nat))
        generalize hsp : bs231 l + s = sp at *
        have hi : 0 ≤ (sp : Int) ∧ (sp : Int) < (45 : Nat) := tI u5
        refine X.iload (pc := 125) (i := 9) 6 dX1_init_125 rfl ?_
        refine X.iload (pc := 127) (i := 8) 5 dX1_init_127 rfl ?_
        refine X.icmp_ge (pc := 129) 168 dX1_init_129 (by decide) ⟨fun q => absurd q (by omega), fun _ => ?_⟩
        refine X.iload (pc := 132) (i := 6) 3 dX1_init_132 rfl ?_
        refine X.aload_n (pc := 134) (i := 0) 0 dX1_init_134 rfl rfl ?_
        refine X.getI (pc := 135) dX1_init_135 fl_X1_37 rfl (shT (by decide) rfl) ?_
        refine X.topI (y := 45) (h4) ?_
        refine X.icmp_ge (pc := 138) 168 dX1_init_138 (by decide) ⟨fun q => absurd q (by omega), fun _ => ?_⟩
        refine X.aload_n (pc := 141) (i := 0) 0 dX1_init_141 rfl rfl ?_
        refine X.getR (pc := 142) (b := 242) dX1_init_142 fl_X1_41 rfl (shT (by decide) rfl) (h5) ?_
        refine X.iload (pc := 145) (i := 6) 3 dX1_init_145 rfl ?_
        refine X.iload (pc := 147) (i := 9) 6 dX1_init_147 rfl ?_
        refine X.iastore (pc := 149) dX1_init_149 (shT (by decide) rfl) hi ?_
        refine X.aload_n (pc := 150) (i := 0) 0 dX1_init_150 rfl rfl ?_
        refine X.getR (pc := 151) (b := 243) dX1_init_151 fl_X1_45 rfl (shT (by decide) rfl) (h6) ?_
        refine X.iload (pc := 154) (i := 6) 3 dX1_init_154 rfl ?_
        refine X.iload (pc := 156) (i := 7) 4 dX1_init_156 rfl ?_
        refine X.iastore (pc := 158) dX1_init_158 (shT (by decide) rfl) hi ?_
        refine X.iinc (pc := 159) (i := 6) (ls' := [(6, vI (w32 ((sp : Nat) + 1))), (0, vR 231), (4, vI 1), (5, vI 9), (7, vI (l : Nat)), (8, vI x8), (9, vI (s : Nat))]) 3 dX1_init_159 rfl (by decide) rfl ?_
        refine X.iinc (pc := 162) (i := 9) (ls' := [(9, vI (w32 ((s : Nat) + 1))), (6, vI (w32 ((sp : Nat) + 1))), (0, vR 231), (4, vI 1), (5, vI 9), (7, vI (l : Nat)), (8, vI x8)]) 6 dX1_init_162 rfl (by decide) rfl ?_
        refine X.goto (pc := 165) (tgt := 125) dX1_init_165 (by decide) ?_
        rw [wi1 (i := sp) (by omega), wi1 (i := s) (by omega), Int.toNat_natCast]
        refine X.pick [2, 3, 4, 1, 5, 6, 0] rfl ?_
        have hnx : bs231 l + (s + 1) = sp + 1 := by omega
        rw [hnx] at ih2'
        refine ih2' ⟨fun s' hs' => ?_, fun b b0 b1 => by rw [up_o' b1, up_o' b0]; exact j3 b b0 b1⟩
        by_cases e : s' = sp
        · subst e
          rw [u3, u4, up_a' (by decide), up_s, up_s]; exact ⟨rfl, rfl⟩
        · rw [up_a' (by decide), up_k' e, up_k' e, up_a' (by decide)]
          exact j2 s' (by omega)
    generalize hsp : bs231 l = sp at *
    refine X.iload (pc := 97) (i := 7) 4 dX1_init_97 rfl ?_
    refine X.iload (pc := 99) (i := 5) 2 dX1_init_99 rfl ?_
    refine X.icmp_gt (pc := 101) 174 dX1_init_101 (by decide) ⟨fun q => absurd q (by omega), fun _ => ?_⟩
    refine X.iload (pc := 104) (i := 4) 1 dX1_init_104 rfl ?_
    refine X.if_eq (pc := 106) 119 dX1_init_106 (by decide) ⟨fun q9 => absurd q9 (by decide), fun _ => ?_⟩
    refine X.bipush (pc := 109) (y := 9) dX1_init_109 rfl ⟨by decide, by decide⟩ ?_
    refine X.iload (pc := 111) (i := 7) 4 dX1_init_111 rfl ?_
    refine X.isub (pc := 113) dX1_init_113 ?_
    refine X.iconst (pc := 114) dX1_init_114 ⟨by decide, by decide⟩ ?_
    refine X.iadd (pc := 115) dX1_init_115 ?_
    refine X.goto (pc := 116) (tgt := 120) dX1_init_116 (by decide) ?_
    refine X.istore (pc := 120) (i := 8) (ls' := [(8, vI (w32 ((w32 (9 - (l : Nat))) + 1))), (0, vR 231), (4, vI 1), (5, vI 9), (6, vI (sp : Nat)), (7, vI (l : Nat))]) dX1_init_120 (by decide) rfl ?_
    refine X.iconst (pc := 122) dX1_init_122 ⟨by decide, by decide⟩ ?_
    refine X.istore (pc := 123) (i := 9) (ls' := [(9, vI 0), (8, vI (w32 ((w32 (9 - (l : Nat))) + 1))), (0, vR 231), (4, vI 1), (5, vI 9), (6, vI (sp : Nat)), (7, vI (l : Nat))]) dX1_init_123 (by decide) rfl ?_
    refine X.pick [2, 3, 4, 5, 6, 1, 0] rfl (h125 _ ?_)
    unfold stt231; rw [w32_id (x := 9 - (l : Int)) (by omega) (by omega), w32_id (by omega) (by omega)]; omega
theorem s_X1_T231 {ν : Nat → Nat → Option Nat} {μ : Nat → Nat → Int} {Q : xQ} (e4 : μ 231 4 = 45) (hF : Fr 244 ν μ) (h : Q none (SH.take 249) ((upr (upr (upr (upr (upr ν 231 7 (some 244)) 231 8 (some 245)) 231 9 (some 246)) 231 10 (some 247)) 231 11 (some 248))) (μ)) : X mX1_init 174 [(0, vR 231)] [] (SH.take 244) ν μ 12 301 Q := by
  refine X.aload_n (pc := 174) (i := 0) 0 dX1_init_174 rfl rfl ?_
  refine X.aload_n (pc := 175) (i := 0) 0 dX1_init_175 rfl rfl ?_
  refine X.getI (pc := 176) dX1_init_176 fl_X1_37 rfl (shT (by decide) rfl) ?_
  refine X.topI (y := 45) (e4) ?_
  refine X.aload_n (pc := 179) (i := 0) 0 dX1_init_179 rfl rfl ?_
  refine X.getI (pc := 180) dX1_init_180 fl_X1_37 rfl (shT (by decide) rfl) ?_
  refine X.topI (y := 45) (e4) ?_
  refine X.imul (pc := 183) dX1_init_183 ?_
  refine X.topI (y := 2025) (by decide) ?_
  refine X.topI (y := ((2025 : Nat) : Int)) rfl ?_
  refine T.newa (pc := 184) (t := 0) (N := 2025) (K := 244) (K' := 245) (k' := 13) (n' := 2326) dX1_init_184 (by decide) rfl ac_int (by decide) rfl hF rfl rfl rfl (Nat.le_of_ble_eq_true rfl) (Nat.le_of_ble_eq_true rfl) ?_
  refine X.putR (pc := 186) dX1_init_186 fl_X1_48 rfl (fun _ => ⟨rfl, rfl⟩) (shT (by decide) rfl) ?_
  refine X.aload_n (pc := 189) (i := 0) 0 dX1_init_189 rfl rfl ?_
  refine X.aload_n (pc := 190) (i := 0) 0 dX1_init_190 rfl rfl ?_
  refine X.getI (pc := 191) dX1_init_191 fl_X1_37 rfl (shT (by decide) rfl) ?_
  refine X.topI (y := 45) (e4) ?_
  refine X.aload_n (pc := 194) (i := 0) 0 dX1_init_194 rfl rfl ?_
  refine X.getI (pc := 195) dX1_init_195 fl_X1_37 rfl (shT (by decide) rfl) ?_
  refine X.topI (y := 45) (e4) ?_
  refine X.imul (pc := 198) dX1_init_198 ?_
  refine X.topI (y := 2025) (by decide) ?_
  refine X.topI (y := ((2025 : Nat) : Int)) rfl ?_
  refine T.newa (pc := 199) (t := 0) (N := 2025) (K := 245) (K' := 246) (k' := 14) (n' := 4351) dX1_init_199 (by decide) rfl ac_int (by decide) rfl (Fr_r (by omega) (Fr_m (K' := 245) (by omega) hF)) rfl rfl rfl (Nat.le_of_ble_eq_true rfl) (Nat.le_of_ble_eq_true rfl) ?_
  refine X.putR (pc := 201) dX1_init_201 fl_X1_51 rfl (fun _ => ⟨rfl, rfl⟩) (shT (by decide) rfl) ?_
  refine X.aload_n (pc := 204) (i := 0) 0 dX1_init_204 rfl rfl ?_
  refine X.aload_n (pc := 205) (i := 0) 0 dX1_init_205 rfl rfl ?_
  refine X.getI (pc := 206) dX1_init_206 fl_X1_37 rfl (shT (by decide) rfl) ?_
  refine X.topI (y := 45) (e4) ?_
  refine X.aload_n (pc := 209) (i := 0) 0 dX1_init_209 rfl rfl ?_
  refine X.getI (pc := 210) dX1_init_210 fl_X1_37 rfl (shT (by decide) rfl) ?_
  refine X.topI (y := 45) (e4) ?_
  refine X.imul (pc := 213) dX1_init_213 ?_
  refine X.topI (y := 2025) (by decide) ?_
  refine X.bipush (pc := 214) (y := 8) dX1_init_214 rfl ⟨by decide, by decide⟩ ?_
  refine X.imul (pc := 216) dX1_init_216 ?_
  refine X.topI (y := 16200) (by decide) ?_
  refine X.topI (y := ((16200 : Nat) : Int)) rfl ?_
  refine T.newa (pc := 217) (t := 1) (N := 16200) (K := 246) (K' := 247) (k' := 15) (n' := 20551) dX1_init_217 (by decide) rfl ac_long (by decide) rfl (Fr_r (by omega) (Fr_m (K' := 246) (by omega) (Fr_r (by omega) (Fr_m (K' := 245) (by omega) hF)))) rfl rfl rfl (Nat.le_of_ble_eq_true rfl) (Nat.le_of_ble_eq_true rfl) ?_
  refine X.putR (pc := 219) dX1_init_219 fl_X1_54 rfl (fun _ => ⟨rfl, rfl⟩) (shT (by decide) rfl) ?_
  refine X.aload_n (pc := 222) (i := 0) 0 dX1_init_222 rfl rfl ?_
  refine X.aload_n (pc := 223) (i := 0) 0 dX1_init_223 rfl rfl ?_
  refine X.getI (pc := 224) dX1_init_224 fl_X1_37 rfl (shT (by decide) rfl) ?_
  refine X.topI (y := 45) (e4) ?_
  refine X.aload_n (pc := 227) (i := 0) 0 dX1_init_227 rfl rfl ?_
  refine X.getI (pc := 228) dX1_init_228 fl_X1_37 rfl (shT (by decide) rfl) ?_
  refine X.topI (y := 45) (e4) ?_
  refine X.imul (pc := 231) dX1_init_231 ?_
  refine X.topI (y := 2025) (by decide) ?_
  refine X.bipush (pc := 232) (y := 8) dX1_init_232 rfl ⟨by decide, by decide⟩ ?_
  refine X.imul (pc := 234) dX1_init_234 ?_
  refine X.topI (y := 16200) (by decide) ?_
  refine X.topI (y := ((16200 : Nat) : Int)) rfl ?_
  refine T.newa (pc := 235) (t := 1) (N := 16200) (K := 247) (K' := 248) (k' := 16) (n' := 36751) dX1_init_235 (by decide) rfl ac_long (by decide) rfl (Fr_r (by omega) (Fr_m (K' := 247) (by omega) (Fr_r (by omega) (Fr_m (K' := 246) (by omega) (Fr_r (by omega) (Fr_m (K' := 245) (by omega) hF)))))) rfl rfl rfl (Nat.le_of_ble_eq_true rfl) (Nat.le_of_ble_eq_true rfl) ?_
  refine X.putR (pc := 237) dX1_init_237 fl_X1_58 rfl (fun _ => ⟨rfl, rfl⟩) (shT (by decide) rfl) ?_
  refine X.aload_n (pc := 240) (i := 0) 0 dX1_init_240 rfl rfl ?_
  refine X.aload_n (pc := 241) (i := 0) 0 dX1_init_241 rfl rfl ?_
  refine X.getI (pc := 242) dX1_init_242 fl_X1_37 rfl (shT (by decide) rfl) ?_
  refine X.topI (y := 45) (e4) ?_
  refine X.aload_n (pc := 245) (i := 0) 0 dX1_init_245 rfl rfl ?_
  refine X.getI (pc := 246) dX1_init_246 fl_X1_37 rfl (shT (by decide) rfl) ?_
  refine X.topI (y := 45) (e4) ?_
  refine X.imul (pc := 249) dX1_init_249 ?_
  refine X.topI (y := 2025) (by decide) ?_
  refine X.bipush (pc := 250) (y := 8) dX1_init_250 rfl ⟨by decide, by decide⟩ ?_
  refine X.imul (pc := 252) dX1_init_252 ?_
  refine X.topI (y := 16200) (by decide) ?_
  refine X.topI (y := ((16200 : Nat) : Int)) rfl ?_
  refine T.newa (pc := 253) (t := 2) (N := 16200) (K := 248) (K' := 249) (k' := 17) (n' := 52951) dX1_init_253 (by decide) rfl ac_byte (by decide) rfl (Fr_r (by omega) (Fr_m (K' := 248) (by omega) (Fr_r (by omega) (Fr_m (K' := 247) (by omega) (Fr_r (by omega) (Fr_m (K' := 246) (by omega) (Fr_r (by omega) (Fr_m (K' := 245) (by omega) hF)))))))) rfl rfl rfl (Nat.le_of_ble_eq_true rfl) (Nat.le_of_ble_eq_true rfl) ?_
  refine X.putR (pc := 255) dX1_init_255 fl_X1_61 rfl (fun _ => ⟨rfl, rfl⟩) (shT (by decide) rfl) ?_
  exact X.vret (pc := 258) dX1_init_258 rfl (Nat.le_of_ble_eq_true rfl) (Nat.le_of_ble_eq_true rfl) h
def nuA231 (ν : Nat → Nat → Option Nat) : Nat → Nat → Option Nat := (upr (upr (upr (upr (upr (upr (upr (upr (upr (upr (upr (upr (upr (upr (upr ν 232 0 (some 233)) 232 1 (some 234)) 232 2 (some 235)) 232 3 (some 236)) 232 4 (some 237)) 232 5 (some 238)) 232 6 (some 239)) 232 7 (some 240)) 232 8 (some 241)) 231 12 (some 232)) 231 0 (some 1)) 231 1 (some 207)) 231 2 (some 211)) 231 5 (some 242)) 231 6 (some 243))
def muA231 (μ : Nat → Nat → Int) : Nat → Nat → Int := (up (up (up (up (up μ 232 9 0) 232 10 0) 231 13 0) 231 3 1) 231 4 45)
def nuT231 (ν : Nat → Nat → Option Nat) : Nat → Nat → Option Nat := (upr (upr (upr (upr (upr ν 231 7 (some 244)) 231 8 (some 245)) 231 9 (some 246)) 231 10 (some 247)) 231 11 (some 248))
theorem s_X1_A231 {ν : Nat → Nat → Option Nat} {μ : Nat → Nat → Int} {Q : xQ} (hF : Fr 232 ν μ) (h : X mX1_init 97 [(0, vR 231), (4, vI 1), (5, vI 9), (6, vI 0), (7, vI 1)] [] (SH.take 244) (nuA231 ν) (muA231 μ) 12 301 Q) : X mX1_init 0 [(0, vR 231), (1, vR 1), (2, vR 207), (3, vR 211), (4, vI 1)] [] (SH.take 232) ν μ 0 0 Q := by
  refine X.aload_n (pc := 0) (i := 0) 0 dX1_init_0 rfl rfl ?_
  refine X.objInit (pc := 1) dX1_init_1 lk_X1_3 w_oi w_oc (by decide) (Nat.le_of_ble_eq_true rfl) ?_
  refine X.aload_n (pc := 4) (i := 0) 0 dX1_init_4 rfl rfl ?_
  refine T.new (pc := 5) (ci := 4) (K := 232) (K' := 233) (k' := 1) (n' := 11) dX1_init_5 nl_X1_9 rfl hF rfl rfl rfl (Nat.le_of_ble_eq_true rfl) (Nat.le_of_ble_eq_true rfl) ?_
  refine X.dup (pc := 8) dX1_init_8 rfl ?_
  refine X.callIN (pc := 9) (vs := []) (st := [vR 232, vR 231]) dX1_init_9 rfl okM_X4_init rfl nk_X1_11 inst_X4_init rfl rfl ⟨⟨by decide, by decide⟩, ⟨by decide, by decide⟩, Nat.le_of_ble_eq_true rfl⟩ (Nat.le_of_ble_eq_true rfl) ?_
  refine c_X4_init (a := 232) (K := 233) rfl (by omega) rfl rfl rfl rfl rfl rfl rfl rfl rfl (Fr_m (K' := 233) (by omega) hF) ?_
  refine X.nrm (pc' := 12) (ls' := [(0, vR 231), (1, vR 1), (2, vR 207), (3, vR 211), (4, vI 1)]) (st' := [vR 232, vR 231]) (k' := 10) (n' := 211) rfl rfl rfl rfl rfl ?_
  refine X.putR (pc := 12) dX1_init_12 fl_X1_12 rfl (fun _ => ⟨rfl, rfl⟩) (shT (by decide) rfl) ?_
  refine X.aload_n (pc := 15) (i := 0) 0 dX1_init_15 rfl rfl ?_
  refine X.iconst (pc := 16) dX1_init_16 ⟨by decide, by decide⟩ ?_
  refine X.putI (pc := 17) dX1_init_17 fl_X1_18 rfl (fun h9 => by cases h9) (shT (by decide) rfl) (Or.inr (Or.inl rfl)) ?_
  refine X.aload_n (pc := 20) (i := 0) 0 dX1_init_20 rfl rfl ?_
  refine X.aload_n (pc := 21) (i := 1) 1 dX1_init_21 rfl rfl ?_
  refine X.putR (pc := 22) dX1_init_22 fl_X1_22 rfl (fun _ => ⟨rfl, rfl⟩) (shT (by decide) rfl) ?_
  refine X.aload_n (pc := 25) (i := 0) 0 dX1_init_25 rfl rfl ?_
  refine X.aload_n (pc := 26) (i := 2) 2 dX1_init_26 rfl rfl ?_
  refine X.putR (pc := 27) dX1_init_27 fl_X1_26 rfl (fun _ => ⟨rfl, rfl⟩) (shT (by decide) rfl) ?_
  refine X.aload_n (pc := 30) (i := 0) 0 dX1_init_30 rfl rfl ?_
  refine X.aload_n (pc := 31) (i := 3) 3 dX1_init_31 rfl rfl ?_
  refine X.putR (pc := 32) dX1_init_32 fl_X1_30 rfl (fun _ => ⟨rfl, rfl⟩) (shT (by decide) rfl) ?_
  refine X.aload_n (pc := 35) (i := 0) 0 dX1_init_35 rfl rfl ?_
  refine X.iload (pc := 36) (i := 4) 4 dX1_init_36 rfl ?_
  refine X.putI (pc := 38) dX1_init_38 fl_X1_34 rfl (fun _ => ⟨rfl, rfl⟩) (shT (by decide) rfl) (Or.inr (Or.inr rfl)) ?_
  refine X.aload_n (pc := 41) (i := 0) 0 dX1_init_41 rfl rfl ?_
  refine X.iload (pc := 42) (i := 4) 4 dX1_init_42 rfl ?_
  refine X.if_eq (pc := 44) 52 dX1_init_44 (by decide) ⟨fun q9 => absurd q9 (by decide), fun _ => ?_⟩
  refine X.bipush (pc := 47) (y := 45) dX1_init_47 rfl ⟨by decide, by decide⟩ ?_
  refine X.goto (pc := 49) (tgt := 54) dX1_init_49 (by decide) ?_
  refine X.putI (pc := 54) dX1_init_54 fl_X1_37 rfl (fun _ => ⟨rfl, rfl⟩) (shT (by decide) rfl) (Or.inl rfl) ?_
  refine X.aload_n (pc := 57) (i := 0) 0 dX1_init_57 rfl rfl ?_
  refine X.aload_n (pc := 58) (i := 0) 0 dX1_init_58 rfl rfl ?_
  refine X.getI (pc := 59) dX1_init_59 fl_X1_37 rfl (shT (by decide) rfl) ?_
  refine X.topI (y := 45) (by simp (disch := decide) only [up_s, up_a', up_k']) ?_
  refine X.topI (y := ((45 : Nat) : Int)) rfl ?_
  refine T.newa (pc := 62) (t := 0) (N := 45) (K := 242) (K' := 243) (k' := 11) (n' := 256) dX1_init_62 (by decide) rfl ac_int (by decide) rfl (Fr_i (by omega) (Fr_i (by omega) (Fr_r (by omega) (Fr_r (by omega) (Fr_r (by omega) (Fr_i (by omega) (Fr_r (by omega) (Fr_i (by omega) (Fr_i (by omega) (Fr_r (by omega) (Fr_r (by omega) (Fr_r (by omega) (Fr_r (by omega) (Fr_r (by omega) (Fr_r (by omega) (Fr_r (by omega) (Fr_r (by omega) (Fr_r (by omega) (Fr_m (K' := 242) (by omega) (Fr_m (K' := 233) (by omega) hF)))))))))))))))))))) rfl rfl rfl (Nat.le_of_ble_eq_true rfl) (Nat.le_of_ble_eq_true rfl) ?_
  refine X.putR (pc := 64) dX1_init_64 fl_X1_41 rfl (fun _ => ⟨rfl, rfl⟩) (shT (by decide) rfl) ?_
  refine X.aload_n (pc := 67) (i := 0) 0 dX1_init_67 rfl rfl ?_
  refine X.aload_n (pc := 68) (i := 0) 0 dX1_init_68 rfl rfl ?_
  refine X.getI (pc := 69) dX1_init_69 fl_X1_37 rfl (shT (by decide) rfl) ?_
  refine X.topI (y := 45) (by simp (disch := decide) only [up_s, up_a', up_k']) ?_
  refine X.topI (y := ((45 : Nat) : Int)) rfl ?_
  refine T.newa (pc := 72) (t := 0) (N := 45) (K := 243) (K' := 244) (k' := 12) (n' := 301) dX1_init_72 (by decide) rfl ac_int (by decide) rfl (Fr_r (by omega) (Fr_m (K' := 243) (by omega) (Fr_i (by omega) (Fr_i (by omega) (Fr_r (by omega) (Fr_r (by omega) (Fr_r (by omega) (Fr_i (by omega) (Fr_r (by omega) (Fr_i (by omega) (Fr_i (by omega) (Fr_r (by omega) (Fr_r (by omega) (Fr_r (by omega) (Fr_r (by omega) (Fr_r (by omega) (Fr_r (by omega) (Fr_r (by omega) (Fr_r (by omega) (Fr_r (by omega) (Fr_m (K' := 242) (by omega) (Fr_m (K' := 233) (by omega) hF)))))))))))))))))))))) rfl rfl rfl (Nat.le_of_ble_eq_true rfl) (Nat.le_of_ble_eq_true rfl) ?_
  refine X.putR (pc := 74) dX1_init_74 fl_X1_45 rfl (fun _ => ⟨rfl, rfl⟩) (shT (by decide) rfl) ?_
  refine X.iload (pc := 77) (i := 4) 4 dX1_init_77 rfl ?_
  refine X.if_eq (pc := 79) 87 dX1_init_79 (by decide) ⟨fun q9 => absurd q9 (by decide), fun _ => ?_⟩
  refine X.bipush (pc := 82) (y := 9) dX1_init_82 rfl ⟨by decide, by decide⟩ ?_
  refine X.goto (pc := 84) (tgt := 89) dX1_init_84 (by decide) ?_
  refine X.istore (pc := 89) (i := 5) (ls' := [(5, vI 9), (0, vR 231), (1, vR 1), (2, vR 207), (3, vR 211), (4, vI 1)]) dX1_init_89 (by decide) rfl ?_
  refine X.iconst (pc := 91) dX1_init_91 ⟨by decide, by decide⟩ ?_
  refine X.istore (pc := 92) (i := 6) (ls' := [(6, vI 0), (5, vI 9), (0, vR 231), (1, vR 1), (2, vR 207), (3, vR 211), (4, vI 1)]) dX1_init_92 (by decide) rfl ?_
  refine X.iconst (pc := 94) dX1_init_94 ⟨by decide, by decide⟩ ?_
  refine X.istore (pc := 95) (i := 7) (ls' := [(7, vI 1), (6, vI 0), (5, vI 9), (0, vR 231), (1, vR 1), (2, vR 207), (3, vR 211), (4, vI 1)]) dX1_init_95 (by decide) rfl ?_
  exact X.pick [3, 7, 2, 1, 0] rfl h
