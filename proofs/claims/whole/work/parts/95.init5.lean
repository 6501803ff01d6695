/-! the reference's constructor -/
theorem wq40 : Cond.selects "DrainedForAThirdModel" ⟨"DrainedForAThirdModel", "spell", "(IIIIIIIII)V"⟩ ⟨"DrainedForAThirdModel", "spell", "(IIIIIIIII)V"⟩ ∈ kWD := kWD_of 40 (by decide +kernel) (by decide +kernel)
theorem wq812 : Cond.methodLink "DrainedForAThirdModel" 7 Lib.objectInit ∈ kWD := kWD_of 812 (by decide +kernel) (by decide +kernel)
theorem wq813 : Cond.methodLink "DrainedForAThirdModel" 66 ⟨"DrainedForAThirdModel", "spell", "(IIIIIIIII)V"⟩ ∈ kWD := kWD_of 813 (by decide +kernel) (by decide +kernel)
theorem wq815 : Cond.instanceMethod ⟨"DrainedForAThirdModel", "spell", "(IIIIIIIII)V"⟩ ∈ kWD := kWD_of 815 (by decide +kernel) (by decide +kernel)
theorem wq816 : Cond.code ⟨"DrainedForAThirdModel", "spell", "(IIIIIIIII)V"⟩ prog_7_method_5_code 10 none ∈ kWD := kWD_of 816 (by decide +kernel) (by decide +kernel)
def mR0 : Nat → Int32 := fun i => if i = 7 then 35 else if i = 36 then -1 else 0
/-- a fen of threes whose first i cells are made -/
def kF3 (i : Nat) : Nat → Int32 := fun j => if j < 3 * i then (if j % 3 = 0 then 40 else if j % 3 = 1 then 20 else 5) else 0
theorem kF3_step (i : Nat) : upd (upd (upd (kF3 i) (3 * i) 40) (3 * i + 1) 20) (3 * i + 2) 5 = kF3 (i + 1) := by
  funext j
  unfold upd kF3
  by_cases h2 : j = 3 * i + 2
  · rw [if_pos h2, if_pos (by omega), if_neg (by omega), if_neg (by omega)]
  rw [if_neg h2]
  by_cases h1 : j = 3 * i + 1
  · rw [if_pos h1, if_pos (by omega), if_neg (by omega), if_pos (by omega)]
  rw [if_neg h1]
  by_cases h0 : j = 3 * i
  · rw [if_pos h0, if_pos (by omega), if_pos (by omega)]
  rw [if_neg h0]
  by_cases h : j < 3 * i
  · rw [if_pos h, if_pos (show j < 3 * (i + 1) by omega)]
  · rw [if_neg h, if_neg (show ¬ j < 3 * (i + 1) by omega)]
/-- the reference's numbers, i cells made -/
def mSi (i : Nat) : kS := (fun p => match p with
  | 0 => mR0
  | 4 => kF3 i
  | _ => fun _ => 0, 0)
def mSz : kS := (fun p => match p with
  | 0 => mR0
  | _ => fun _ => 0, 0)
theorem mSi_0 : mSi 0 = mSz := by
  refine Prod.ext (funext fun p => ?_) rfl
  show (mSi 0).1 p = mSz.1 p
  by_cases h : p = 4
  · subst h
    refine funext fun j => ?_
    show (if j < 3 * 0 then (if j % 3 = 0 then (40 : Int32) else if j % 3 = 1 then 20 else 5) else 0) = 0
    exact if_neg (by omega)
  · match p, h with
    | 0, _ => rfl
    | 1, _ => rfl
    | 2, _ => rfl
    | 3, _ => rfl
    | _ + 5, _ => rfl
theorem kset3 {σ : kS} {p i j k : Nat} {u v w : Int32} : kset (kset (kset σ p i u) p j v) p k w = kput σ p (upd (upd (upd (σ.1 p) i u) j v) k w) := by
  refine Prod.ext (funext fun q => ?_) rfl
  by_cases h : q = p
  · subst h
    simp [kset, kput]
  · simp [kset, kput, h]
theorem mSi_step (i : Nat) : kset (kset (kset (mSi i) 4 (3 * i) 40) 4 (3 * i + 1) 20) 4 (3 * i + 2) 5 = mSi (i + 1) := by
  rw [kset3]
  show kput (mSi i) 4 (upd (upd (upd (kF3 i) (3 * i) 40) (3 * i + 1) 20) (3 * i + 2) 5) = _
  rw [kF3_step]
  refine Prod.ext (funext fun p => ?_) rfl
  show (if p = 4 then kF3 (i + 1) else (mSi i).1 p) = (mSi (i + 1)).1 p
  by_cases h : p = 4
  · subst h
    rw [if_pos rfl]
    rfl
  · rw [if_neg h]
    match p, h with
    | 0, _ => rfl
    | 1, _ => rfl
    | 2, _ => rfl
    | 3, _ => rfl
    | _ + 5, _ => rfl
/-- what the first text says -/
def kTb (j : Nat) : Int32 := [114, 97, 105, 110, 115, 32, 54, 32, 59, 32, 115, 104, 114, 105, 110, 107, 115, 32, 50, 32, 59, 32, 99, 97, 108, 108, 115, 32, 51, 32, 59, 32].getD j 0
/-- the reference's numbers at the start -/
def mS0 : kS := (fun p => match p with
  | 0 => fun i => if i = 3 then 1 else mR0 i
  | 1 => kTb
  | 2 => fun i => if i = 0 then 32 else 0
  | 4 => kF3 12
  | _ => fun _ => 0, 0)
def mPs (g : kG) (t0 : Nat) (E : va_W) : Option Value → va_W → Prop := fun r ws => r = none ∧ ∃ a : Nat → Nat, a 0 = t0 ∧ ws = mW g a E mS0
theorem i_3n {i k : Nat} (h : 3 * i + k < 1000) (hk : k < 3) : (3 * Int32.ofNat i + Int32.ofNat k).toInt = ((3 * i + k : Nat) : Int) := by
  have e3 : (3 : Int32).toInt = 3 := by decide
  have h1 := i_n (i := i) (by omega)
  have h2 := i_n (i := k) (by omega)
  have h3 : (3 * Int32.ofNat i).toInt = 3 * (i : Int) := by rw [i_mul (by rw [e3, h1]; omega), e3, h1]
  rw [i_add (by rw [h3, h2]; omega), h3, h2]
  omega
theorem i_3nN {i k : Nat} (h : 3 * i + k < 1000) (hk : k < 3) : (3 * Int32.ofNat i + Int32.ofNat k).toNatClampNeg = 3 * i + k := by
  show (3 * Int32.ofNat i + Int32.ofNat k).toInt.toNat = _
  rw [i_3n h hk]
  rfl
theorem i_3nin {i k n : Nat} (h : 3 * i + k < n) (hn : n < 1000) (hk : k < 3) : vp_in (3 * Int32.ofNat i + Int32.ofNat k) n := by
  rw [vp_in_iff, i_3n (by omega) hk]
  omega
theorem i_add0 (x : Int32) : x + Int32.ofNat 0 = x := Int32.add_zero x
theorem m_loop {z : kZ} {a : Nat → Nat} {E : va_W} (F : kF z cX5_init RX5 2 { frames := 1, cells := 15, slots := 1515, locals := 80 }) (kk : kV z (mW (zg z) a E (mSi 12)) 15 1515 182 [(1, .int 12), (0, .ref (a 0))] []) : ∀ k i : Nat, i + k = 12 → kV z (mW (zg z) a E (mSi i)) 15 1515 137 [(1, .int (Int32.ofNat i)), (0, .ref (a 0))] []
  | 0, i, h => by
    have hi : i = 12 := by omega
    subst hi
    refine g_iload_n F dX5_init_137 0 rfl ?_
    refine g_bipush (v := (12 : Int32)) F dX5_init_138 (by decide) ?_
    exact g_icmp_ge F dX5_init_140 (tgt := 182) (by decide) (fun _ => kk) (fun c => absurd (by decide) c)
  | k + 1, i, h => by
    have hi : i < 12 := by omega
    refine g_iload_n F dX5_init_137 0 rfl ?_
    refine g_bipush (v := (12 : Int32)) F dX5_init_138 (by decide) ?_
    refine g_icmp_ge F dX5_init_140 (tgt := 182) (by decide) (fun c => ?_) (fun _ => ?_)
    · exfalso
      rw [i_le, i_n (by omega)] at c
      have e : (12 : Int32).toInt = 12 := by decide
      omega
    have v0 := i_3nin (i := i) (k := 0) (n := 36) (by omega) (by omega) (by omega)
    have v1 := i_3nin (i := i) (k := 1) (n := 36) (by omega) (by omega) (by omega)
    have v2 := i_3nin (i := i) (k := 2) (n := 36) (by omega) (by omega) (by omega)
    have n0 := i_3nN (i := i) (k := 0) (by omega) (by omega)
    have n1 := i_3nN (i := i) (k := 1) (by omega) (by omega)
    have n2 := i_3nN (i := i) (k := 2) (by omega) (by omega)
    rw [i_add0] at v0 n0
    rw [Nat.add_zero] at n0
    refine g_aload_n F dX5_init_143 1 rfl ?_
    refine rgX5_X5_fen F dX5_init_144 ?_
    refine g_iconst (v := (3 : Int32)) F dX5_init_147 (by decide) ?_
    refine g_iload_n F dX5_init_148 0 rfl ?_
    refine g_imul F dX5_init_149 ?_
    refine g_bipush (v := (40 : Int32)) F dX5_init_150 (by decide) ?_
    refine g_iast F mA4 v0 dX5_init_152 ?_
    rw [n0]
    refine g_aload_n F dX5_init_153 1 rfl ?_
    refine rgX5_X5_fen F dX5_init_154 ?_
    refine g_iconst (v := (3 : Int32)) F dX5_init_157 (by decide) ?_
    refine g_iload_n F dX5_init_158 0 rfl ?_
    refine g_imul F dX5_init_159 ?_
    refine g_iconst (v := (1 : Int32)) F dX5_init_160 (by decide) ?_
    refine g_iadd F dX5_init_161 ?_
    refine g_bipush (v := (20 : Int32)) F dX5_init_162 (by decide) ?_
    refine g_iast F mA4 v1 dX5_init_164 ?_
    rw [show (3 * Int32.ofNat i + 1).toNatClampNeg = 3 * i + 1 from n1]
    refine g_aload_n F dX5_init_165 1 rfl ?_
    refine rgX5_X5_fen F dX5_init_166 ?_
    refine g_iconst (v := (3 : Int32)) F dX5_init_169 (by decide) ?_
    refine g_iload_n F dX5_init_170 0 rfl ?_
    refine g_imul F dX5_init_171 ?_
    refine g_iconst (v := (2 : Int32)) F dX5_init_172 (by decide) ?_
    refine g_iadd F dX5_init_173 ?_
    refine g_iconst (v := (5 : Int32)) F dX5_init_174 (by decide) ?_
    refine g_iast F mA4 v2 dX5_init_175 ?_
    rw [show (3 * Int32.ofNat i + 2).toNatClampNeg = 3 * i + 2 from n2, mSi_step]
    refine g_iinc (lv' := [(1, .int (Int32.ofNat (i + 1))), (0, .ref (a 0))]) F dX5_init_176 rfl 0 rfl (d := 1) (by decide) i_n1 rfl ?_
    refine g_goto F dX5_init_179 (tgt := 137) (by decide) ?_
    exact m_loop F kk k (i + 1) (by omega)
/-- eight letters laid from o on -/
def kLay8 (σ : kS) (o : Nat) (l1 l2 l3 l4 l5 l6 l7 l8 : Int32) : kS := kset (kset (kset (kset (kset (kset (kset (kset σ 1 o l1) 1 (o + 1) l2) 1 (o + 2) l3) 1 (o + 3) l4) 1 (o + 4) l5) 1 (o + 5) l6) 1 (o + 6) l7) 1 (o + 7) l8
theorem m_spell {σ : kS} {o : Nat} (ho : o < 900) {l1 l2 l3 l4 l5 l6 l7 l8 : Int32} {Q : kS → Prop} (h : Q (kLay8 σ o l1 l2 l3 l4 l5 l6 l7 l8)) : wX5_spell (Int32.ofNat o) l1 l2 l3 l4 l5 l6 l7 l8 σ Q := by
  have e : ∀ k : Nat, k < 8 → vp_in (Int32.ofNat (o + k)) 960 ∧ (Int32.ofNat (o + k)).toNatClampNeg = o + k := fun k hk => ⟨i_nin (by omega) (by omega), i_nN (by omega)⟩
  have a1 : Int32.ofNat o + 1 = Int32.ofNat (o + 1) := (Int32.ofNat_add o 1).symm
  have a2 : Int32.ofNat o + 2 = Int32.ofNat (o + 2) := (Int32.ofNat_add o 2).symm
  have a3 : Int32.ofNat o + 3 = Int32.ofNat (o + 3) := (Int32.ofNat_add o 3).symm
  have a4 : Int32.ofNat o + 4 = Int32.ofNat (o + 4) := (Int32.ofNat_add o 4).symm
  have a5 : Int32.ofNat o + 5 = Int32.ofNat (o + 5) := (Int32.ofNat_add o 5).symm
  have a6 : Int32.ofNat o + 6 = Int32.ofNat (o + 6) := (Int32.ofNat_add o 6).symm
  have a7 : Int32.ofNat o + 7 = Int32.ofNat (o + 7) := (Int32.ofNat_add o 7).symm
  have e0 := e 0 (by omega)
  rw [Nat.add_zero] at e0
  unfold wX5_spell
  rw [a1, a2, a3, a4, a5, a6, a7, e0.2, (e 1 (by omega)).2, (e 2 (by omega)).2, (e 3 (by omega)).2, (e 4 (by omega)).2, (e 5 (by omega)).2, (e 6 (by omega)).2, (e 7 (by omega)).2]
  refine ⟨e0.1, fun s1 h1 => ⟨(e 1 (by omega)).1, fun s2 h2 => ⟨(e 2 (by omega)).1, fun s3 h3 => ⟨(e 3 (by omega)).1, fun s4 h4 => ⟨(e 4 (by omega)).1, fun s5 h5 => ⟨(e 5 (by omega)).1, fun s6 h6 => ⟨(e 6 (by omega)).1, fun s7 h7 => ⟨(e 7 (by omega)).1, fun s8 h8 => ?_⟩⟩⟩⟩⟩⟩⟩⟩
  subst h1 h2 h3 h4 h5 h6 h7 h8
  exact h
theorem plX5_spell : kPlain yX5_spell 9 = true := by decide +kernel
theorem rX5_X5_spell {z : kZ} {cc : ByteArray} {nL : Nat} {rm : Room} {c n pc : Nat} {lv : List (Nat × Value)} {st : List Value} {a : Nat → Nat} {E : va_W} {σ : kS} {o : Nat} (ho : o < 900) {l1 l2 l3 l4 l5 l6 l7 l8 : Int32} (F : kF z cc RX5 nL rm) (hd : decode cc pc = .ok (.invokevirtual 66, 3)) (hf : kFits rm 0 40 0 0 10 c n st = true) (k : kV z (mW (zg z) a E (kLay8 σ o l1 l2 l3 l4 l5 l6 l7 l8)) c n (pc + 3) lv st) : kV z (mW (zg z) a E σ) c n pc lv (.int l8 :: .int l7 :: .int l6 :: .int l5 :: .int l4 :: .int l3 :: .int l2 :: .int l1 :: .int (Int32.ofNat o) :: .ref (a 0) :: st) := by
  exact g_callV F (av := [.int (Int32.ofNat o), .int l1, .int l2, .int l3, .int l4, .int l5, .int l6, .int l7, .int l8]) (ctX5_spell _ _ _ a E (m_spell ho (Q := fun s => s = kLay8 σ o l1 l2 l3 l4 l5 l6 l7 l8) rfl)) (ci := 5) (q0 := 0) rfl rfl rfl wq813 wq815 wq40 wq114 wq816 plX5_spell hd hf (fun r ws' hq => by
    obtain ⟨σ', rfl, rfl, rfl⟩ := hq
    exact k)
theorem mSi_all : kset (kset (kLay8 (kLay8 (kLay8 (kLay8 (mSi 12) 0 114 97 105 110 115 32 54 32) 8 59 32 115 104 114 105 110 107) 16 115 32 50 32 59 32 99 97) 24 108 108 115 32 51 32 59 32) 2 0 32) 0 3 1 = mS0 := by
  refine Prod.ext (funext fun p => ?_) rfl
  match p with
  | 0 => exact funext fun i => rfl
  | 1 =>
    refine funext fun j => ?_
    match j with
    | 0 => rfl
    | 1 => rfl
    | 2 => rfl
    | 3 => rfl
    | 4 => rfl
    | 5 => rfl
    | 6 => rfl
    | 7 => rfl
    | 8 => rfl
    | 9 => rfl
    | 10 => rfl
    | 11 => rfl
    | 12 => rfl
    | 13 => rfl
    | 14 => rfl
    | 15 => rfl
    | 16 => rfl
    | 17 => rfl
    | 18 => rfl
    | 19 => rfl
    | 20 => rfl
    | 21 => rfl
    | 22 => rfl
    | 23 => rfl
    | 24 => rfl
    | 25 => rfl
    | 26 => rfl
    | 27 => rfl
    | 28 => rfl
    | 29 => rfl
    | 30 => rfl
    | 31 => rfl
    | _ + 32 => rfl
  | 2 => exact funext fun i => rfl
  | 3 => rfl
  | 4 => rfl
  | _ + 5 => rfl
theorem m_tail {z : kZ} {a : Nat → Nat} {E : va_W} (F : kF z cX5_init RX5 2 { frames := 1, cells := 15, slots := 1515, locals := 80 }) (R : kR z none 15 1515 (mPs (zg z) (a 0) E)) : kV z (mW (zg z) a E (mSi 12)) 15 1515 182 [(1, .int 12), (0, .ref (a 0))] [] := by
  refine g_aload_n F dX5_init_182 1 rfl ?_
  refine g_iconst (v := (0 : Int32)) F dX5_init_183 (by decide) ?_
  refine g_bipush (v := (114 : Int32)) F dX5_init_184 (by decide) ?_
  refine g_bipush (v := (97 : Int32)) F dX5_init_186 (by decide) ?_
  refine g_bipush (v := (105 : Int32)) F dX5_init_188 (by decide) ?_
  refine g_bipush (v := (110 : Int32)) F dX5_init_190 (by decide) ?_
  refine g_bipush (v := (115 : Int32)) F dX5_init_192 (by decide) ?_
  refine g_bipush (v := (32 : Int32)) F dX5_init_194 (by decide) ?_
  refine g_bipush (v := (54 : Int32)) F dX5_init_196 (by decide) ?_
  refine g_bipush (v := (32 : Int32)) F dX5_init_198 (by decide) ?_
  refine rX5_X5_spell (o := 0) (by omega) F dX5_init_200 rfl ?_
  refine g_aload_n F dX5_init_203 1 rfl ?_
  refine g_bipush (v := (8 : Int32)) F dX5_init_204 (by decide) ?_
  refine g_bipush (v := (59 : Int32)) F dX5_init_206 (by decide) ?_
  refine g_bipush (v := (32 : Int32)) F dX5_init_208 (by decide) ?_
  refine g_bipush (v := (115 : Int32)) F dX5_init_210 (by decide) ?_
  refine g_bipush (v := (104 : Int32)) F dX5_init_212 (by decide) ?_
  refine g_bipush (v := (114 : Int32)) F dX5_init_214 (by decide) ?_
  refine g_bipush (v := (105 : Int32)) F dX5_init_216 (by decide) ?_
  refine g_bipush (v := (110 : Int32)) F dX5_init_218 (by decide) ?_
  refine g_bipush (v := (107 : Int32)) F dX5_init_220 (by decide) ?_
  refine rX5_X5_spell (o := 8) (by omega) F dX5_init_222 rfl ?_
  refine g_aload_n F dX5_init_225 1 rfl ?_
  refine g_bipush (v := (16 : Int32)) F dX5_init_226 (by decide) ?_
  refine g_bipush (v := (115 : Int32)) F dX5_init_228 (by decide) ?_
  refine g_bipush (v := (32 : Int32)) F dX5_init_230 (by decide) ?_
  refine g_bipush (v := (50 : Int32)) F dX5_init_232 (by decide) ?_
  refine g_bipush (v := (32 : Int32)) F dX5_init_234 (by decide) ?_
  refine g_bipush (v := (59 : Int32)) F dX5_init_236 (by decide) ?_
  refine g_bipush (v := (32 : Int32)) F dX5_init_238 (by decide) ?_
  refine g_bipush (v := (99 : Int32)) F dX5_init_240 (by decide) ?_
  refine g_bipush (v := (97 : Int32)) F dX5_init_242 (by decide) ?_
  refine rX5_X5_spell (o := 16) (by omega) F dX5_init_244 rfl ?_
  refine g_aload_n F dX5_init_247 1 rfl ?_
  refine g_bipush (v := (24 : Int32)) F dX5_init_248 (by decide) ?_
  refine g_bipush (v := (108 : Int32)) F dX5_init_250 (by decide) ?_
  refine g_bipush (v := (108 : Int32)) F dX5_init_252 (by decide) ?_
  refine g_bipush (v := (115 : Int32)) F dX5_init_254 (by decide) ?_
  refine g_bipush (v := (32 : Int32)) F dX5_init_256 (by decide) ?_
  refine g_bipush (v := (51 : Int32)) F dX5_init_258 (by decide) ?_
  refine g_bipush (v := (32 : Int32)) F dX5_init_260 (by decide) ?_
  refine g_bipush (v := (59 : Int32)) F dX5_init_262 (by decide) ?_
  refine g_bipush (v := (32 : Int32)) F dX5_init_264 (by decide) ?_
  refine rX5_X5_spell (o := 24) (by omega) F dX5_init_266 rfl ?_
  refine g_aload_n F dX5_init_269 1 rfl ?_
  refine rgX5_X5_textSize F dX5_init_270 ?_
  refine g_iconst (v := (0 : Int32)) F dX5_init_273 (by decide) ?_
  refine g_bipush (v := (32 : Int32)) F dX5_init_274 (by decide) ?_
  refine g_iast F mA2 (i_nin (i := 0) (by omega) (by omega)) dX5_init_276 ?_
  refine g_aload_n F dX5_init_277 1 rfl ?_
  refine g_iconst (v := (1 : Int32)) F dX5_init_278 (by decide) ?_
  refine rpX5_X5_textCount F dX5_init_279 ?_
  refine g_vret F R rfl rfl dX5_init_282 ⟨rfl, a, rfl, ?_⟩
  exact congrArg (mW (zg z) a E) mSi_all
set_option maxRecDepth 20000 in
theorem ctX5_init (l : Launch) (g : kG) (A : Nat → Prop) (E : va_W) {t : Nat} : kCt l yX5_init cX5_init 2 none 1 80 15 1515 g A [.ref t] ((t, .inr (5, [.int 0, .null, .null, .int 0, .int 0, .null, .int 0, .int 0, .int 0, .int 0, .null, .null, .null, .int 0, .int 0, .int 0, .int 0, .int 0, .int 0, .int 0, .int 0, .int 0, .int 0, .int 0, .int 0, .long 0, .int 0, .int 0, .int 0, .null, .null, .null, .int 0, .int 0, .null, .null, .int 0, .int 0, .int 0, .int 0, .int 0, .null, .null, .null, .null])) :: E) (mPs g t E) := by
  refine kCt.ofN (lv0 := [(0, .ref t)]) (by decide +kernel) (Nat.le_of_ble_eq_true rfl) rfl (fun z hl hg hA hi F R => ?_)
  subst hl hg hA
  have F : kF z cX5_init RX5 2 { frames := 1, cells := 15, slots := 1515, locals := 80 } := F
  have hi : (zM z).name = "<init>" := hi
  refine g_aload_n F dX5_init_0 0 rfl ?_
  refine g_init0 F wq812 wq128 wq129 dX5_init_1 rfl ?_
  refine g_aload_n F dX5_init_4 0 rfl ?_
  refine g_sipush (v := (960 : Int32)) F dX5_init_5 (by decide) ?_
  refine g_newaH F (by decide) rfl (by decide) rfl rfl dX5_init_8 (fun q1 => ?_)
  refine g_putF (ty := .array .int) (ws' := ((q1, .inl ((zg z).2 0, 960, .inl (fun _ => 0))) :: (t, .inr (5, [.int 0, .ref q1, .null, .int 0, .int 0, .null, .int 0, .int 0, .int 0, .int 0, .null, .null, .null, .int 0, .int 0, .int 0, .int 0, .int 0, .int 0, .int 0, .int 0, .int 0, .int 0, .int 0, .int 0, .long 0, .int 0, .int 0, .int 0, .null, .null, .null, .int 0, .int 0, .null, .null, .int 0, .int 0, .int 0, .int 0, .int 0, .null, .null, .null, .null])) :: E)) F lysX5 (ci := 5) rfl tyX5 tyX5_ok nmX5 hi 1 rfl wq817 rfl rfl rfl (by decide +kernel) rfl rfl (q0 := 1) rfl rfl rfl dX5_init_10 ?_
  refine g_aload_n F dX5_init_13 0 rfl ?_
  refine g_bipush (v := (6 : Int32)) F dX5_init_14 (by decide) ?_
  refine g_newaH F (by decide) rfl (by decide) rfl rfl dX5_init_16 (fun q2 => ?_)
  refine g_putF (ty := .array .int) (ws' := ((q2, .inl ((zg z).2 0, 6, .inl (fun _ => 0))) :: (q1, .inl ((zg z).2 0, 960, .inl (fun _ => 0))) :: (t, .inr (5, [.int 0, .ref q1, .ref q2, .int 0, .int 0, .null, .int 0, .int 0, .int 0, .int 0, .null, .null, .null, .int 0, .int 0, .int 0, .int 0, .int 0, .int 0, .int 0, .int 0, .int 0, .int 0, .int 0, .int 0, .long 0, .int 0, .int 0, .int 0, .null, .null, .null, .int 0, .int 0, .null, .null, .int 0, .int 0, .int 0, .int 0, .int 0, .null, .null, .null, .null])) :: E)) F lysX5 (ci := 5) rfl tyX5 tyX5_ok nmX5 hi 2 rfl wq818 rfl rfl rfl (by decide +kernel) rfl rfl (q0 := 2) rfl rfl rfl dX5_init_18 ?_
  refine g_aload_n F dX5_init_21 0 rfl ?_
  refine g_sipush (v := (160 : Int32)) F dX5_init_22 (by decide) ?_
  refine g_newaH F (by decide) rfl (by decide) rfl rfl dX5_init_25 (fun q3 => ?_)
  refine g_putF (ty := .array .int) (ws' := ((q3, .inl ((zg z).2 0, 160, .inl (fun _ => 0))) :: (q2, .inl ((zg z).2 0, 6, .inl (fun _ => 0))) :: (q1, .inl ((zg z).2 0, 960, .inl (fun _ => 0))) :: (t, .inr (5, [.int 0, .ref q1, .ref q2, .int 0, .int 0, .ref q3, .int 0, .int 0, .int 0, .int 0, .null, .null, .null, .int 0, .int 0, .int 0, .int 0, .int 0, .int 0, .int 0, .int 0, .int 0, .int 0, .int 0, .int 0, .long 0, .int 0, .int 0, .int 0, .null, .null, .null, .int 0, .int 0, .null, .null, .int 0, .int 0, .int 0, .int 0, .int 0, .null, .null, .null, .null])) :: E)) F lysX5 (ci := 5) rfl tyX5 tyX5_ok nmX5 hi 5 rfl wq821 rfl rfl rfl (by decide +kernel) rfl rfl (q0 := 3) rfl rfl rfl dX5_init_27 ?_
  refine g_aload_n F dX5_init_30 0 rfl ?_
  refine g_bipush (v := (35 : Int32)) F dX5_init_31 (by decide) ?_
  refine g_putf (ty := .int) (ws' := ((q3, .inl ((zg z).2 0, 160, .inl (fun _ => 0))) :: (q2, .inl ((zg z).2 0, 6, .inl (fun _ => 0))) :: (q1, .inl ((zg z).2 0, 960, .inl (fun _ => 0))) :: (t, .inr (5, [.int 0, .ref q1, .ref q2, .int 0, .int 0, .ref q3, .int 0, .int 35, .int 0, .int 0, .null, .null, .null, .int 0, .int 0, .int 0, .int 0, .int 0, .int 0, .int 0, .int 0, .int 0, .int 0, .int 0, .int 0, .long 0, .int 0, .int 0, .int 0, .null, .null, .null, .int 0, .int 0, .null, .null, .int 0, .int 0, .int 0, .int 0, .int 0, .null, .null, .null, .null])) :: E)) F lysX5 (ci := 5) rfl tyX5 tyX5_ok nmX5 7 rfl wq823 rfl rfl (by decide +kernel) rfl rfl (q0 := 3) rfl rfl rfl dX5_init_33 ?_
  refine g_aload_n F dX5_init_36 0 rfl ?_
  refine g_bipush (v := (36 : Int32)) F dX5_init_37 (by decide) ?_
  refine g_newaH F (by decide) rfl (by decide) rfl rfl dX5_init_39 (fun q4 => ?_)
  refine g_putF (ty := .array .int) (ws' := ((q4, .inl ((zg z).2 0, 36, .inl (fun _ => 0))) :: (q3, .inl ((zg z).2 0, 160, .inl (fun _ => 0))) :: (q2, .inl ((zg z).2 0, 6, .inl (fun _ => 0))) :: (q1, .inl ((zg z).2 0, 960, .inl (fun _ => 0))) :: (t, .inr (5, [.int 0, .ref q1, .ref q2, .int 0, .int 0, .ref q3, .int 0, .int 35, .int 0, .int 0, .ref q4, .null, .null, .int 0, .int 0, .int 0, .int 0, .int 0, .int 0, .int 0, .int 0, .int 0, .int 0, .int 0, .int 0, .long 0, .int 0, .int 0, .int 0, .null, .null, .null, .int 0, .int 0, .null, .null, .int 0, .int 0, .int 0, .int 0, .int 0, .null, .null, .null, .null])) :: E)) F lysX5 (ci := 5) rfl tyX5 tyX5_ok nmX5 hi 10 rfl wq826 rfl rfl rfl (by decide +kernel) rfl rfl (q0 := 4) rfl rfl rfl dX5_init_41 ?_
  refine g_aload_n F dX5_init_44 0 rfl ?_
  refine g_bipush (v := (6 : Int32)) F dX5_init_45 (by decide) ?_
  refine g_newaH F (by decide) rfl (by decide) rfl rfl dX5_init_47 (fun q5 => ?_)
  refine g_putF (ty := .array .int) (ws' := ((q5, .inl ((zg z).2 0, 6, .inl (fun _ => 0))) :: (q4, .inl ((zg z).2 0, 36, .inl (fun _ => 0))) :: (q3, .inl ((zg z).2 0, 160, .inl (fun _ => 0))) :: (q2, .inl ((zg z).2 0, 6, .inl (fun _ => 0))) :: (q1, .inl ((zg z).2 0, 960, .inl (fun _ => 0))) :: (t, .inr (5, [.int 0, .ref q1, .ref q2, .int 0, .int 0, .ref q3, .int 0, .int 35, .int 0, .int 0, .ref q4, .ref q5, .null, .int 0, .int 0, .int 0, .int 0, .int 0, .int 0, .int 0, .int 0, .int 0, .int 0, .int 0, .int 0, .long 0, .int 0, .int 0, .int 0, .null, .null, .null, .int 0, .int 0, .null, .null, .int 0, .int 0, .int 0, .int 0, .int 0, .null, .null, .null, .null])) :: E)) F lysX5 (ci := 5) rfl tyX5 tyX5_ok nmX5 hi 11 rfl wq827 rfl rfl rfl (by decide +kernel) rfl rfl (q0 := 5) rfl rfl rfl dX5_init_49 ?_
  refine g_aload_n F dX5_init_52 0 rfl ?_
  refine g_bipush (v := (18 : Int32)) F dX5_init_53 (by decide) ?_
  refine g_newaH F (by decide) rfl (by decide) rfl rfl dX5_init_55 (fun q6 => ?_)
  refine g_putF (ty := .array .int) (ws' := ((q6, .inl ((zg z).2 0, 18, .inl (fun _ => 0))) :: (q5, .inl ((zg z).2 0, 6, .inl (fun _ => 0))) :: (q4, .inl ((zg z).2 0, 36, .inl (fun _ => 0))) :: (q3, .inl ((zg z).2 0, 160, .inl (fun _ => 0))) :: (q2, .inl ((zg z).2 0, 6, .inl (fun _ => 0))) :: (q1, .inl ((zg z).2 0, 960, .inl (fun _ => 0))) :: (t, .inr (5, [.int 0, .ref q1, .ref q2, .int 0, .int 0, .ref q3, .int 0, .int 35, .int 0, .int 0, .ref q4, .ref q5, .ref q6, .int 0, .int 0, .int 0, .int 0, .int 0, .int 0, .int 0, .int 0, .int 0, .int 0, .int 0, .int 0, .long 0, .int 0, .int 0, .int 0, .null, .null, .null, .int 0, .int 0, .null, .null, .int 0, .int 0, .int 0, .int 0, .int 0, .null, .null, .null, .null])) :: E)) F lysX5 (ci := 5) rfl tyX5 tyX5_ok nmX5 hi 12 rfl wq828 rfl rfl rfl (by decide +kernel) rfl rfl (q0 := 6) rfl rfl rfl dX5_init_57 ?_
  refine g_aload_n F dX5_init_60 0 rfl ?_
  refine g_bipush (v := (36 : Int32)) F dX5_init_61 (by decide) ?_
  refine g_newaH F (by decide) rfl (by decide) rfl rfl dX5_init_63 (fun q7 => ?_)
  refine g_putF (ty := .array .int) (ws' := ((q7, .inl ((zg z).2 0, 36, .inl (fun _ => 0))) :: (q6, .inl ((zg z).2 0, 18, .inl (fun _ => 0))) :: (q5, .inl ((zg z).2 0, 6, .inl (fun _ => 0))) :: (q4, .inl ((zg z).2 0, 36, .inl (fun _ => 0))) :: (q3, .inl ((zg z).2 0, 160, .inl (fun _ => 0))) :: (q2, .inl ((zg z).2 0, 6, .inl (fun _ => 0))) :: (q1, .inl ((zg z).2 0, 960, .inl (fun _ => 0))) :: (t, .inr (5, [.int 0, .ref q1, .ref q2, .int 0, .int 0, .ref q3, .int 0, .int 35, .int 0, .int 0, .ref q4, .ref q5, .ref q6, .int 0, .int 0, .int 0, .int 0, .int 0, .int 0, .int 0, .int 0, .int 0, .int 0, .int 0, .int 0, .long 0, .int 0, .int 0, .int 0, .ref q7, .null, .null, .int 0, .int 0, .null, .null, .int 0, .int 0, .int 0, .int 0, .int 0, .null, .null, .null, .null])) :: E)) F lysX5 (ci := 5) rfl tyX5 tyX5_ok nmX5 hi 29 rfl wq845 rfl rfl rfl (by decide +kernel) rfl rfl (q0 := 7) rfl rfl rfl dX5_init_65 ?_
  refine g_aload_n F dX5_init_68 0 rfl ?_
  refine g_bipush (v := (36 : Int32)) F dX5_init_69 (by decide) ?_
  refine g_newaH F (by decide) rfl (by decide) rfl rfl dX5_init_71 (fun q8 => ?_)
  refine g_putF (ty := .array .int) (ws' := ((q8, .inl ((zg z).2 0, 36, .inl (fun _ => 0))) :: (q7, .inl ((zg z).2 0, 36, .inl (fun _ => 0))) :: (q6, .inl ((zg z).2 0, 18, .inl (fun _ => 0))) :: (q5, .inl ((zg z).2 0, 6, .inl (fun _ => 0))) :: (q4, .inl ((zg z).2 0, 36, .inl (fun _ => 0))) :: (q3, .inl ((zg z).2 0, 160, .inl (fun _ => 0))) :: (q2, .inl ((zg z).2 0, 6, .inl (fun _ => 0))) :: (q1, .inl ((zg z).2 0, 960, .inl (fun _ => 0))) :: (t, .inr (5, [.int 0, .ref q1, .ref q2, .int 0, .int 0, .ref q3, .int 0, .int 35, .int 0, .int 0, .ref q4, .ref q5, .ref q6, .int 0, .int 0, .int 0, .int 0, .int 0, .int 0, .int 0, .int 0, .int 0, .int 0, .int 0, .int 0, .long 0, .int 0, .int 0, .int 0, .ref q7, .ref q8, .null, .int 0, .int 0, .null, .null, .int 0, .int 0, .int 0, .int 0, .int 0, .null, .null, .null, .null])) :: E)) F lysX5 (ci := 5) rfl tyX5 tyX5_ok nmX5 hi 30 rfl wq846 rfl rfl rfl (by decide +kernel) rfl rfl (q0 := 8) rfl rfl rfl dX5_init_73 ?_
  refine g_aload_n F dX5_init_76 0 rfl ?_
  refine g_bipush (v := (31 : Int32)) F dX5_init_77 (by decide) ?_
  refine g_newaH F (by decide) rfl (by decide) rfl rfl dX5_init_79 (fun q9 => ?_)
  refine g_putF (ty := .array .int) (ws' := ((q9, .inl ((zg z).2 0, 31, .inl (fun _ => 0))) :: (q8, .inl ((zg z).2 0, 36, .inl (fun _ => 0))) :: (q7, .inl ((zg z).2 0, 36, .inl (fun _ => 0))) :: (q6, .inl ((zg z).2 0, 18, .inl (fun _ => 0))) :: (q5, .inl ((zg z).2 0, 6, .inl (fun _ => 0))) :: (q4, .inl ((zg z).2 0, 36, .inl (fun _ => 0))) :: (q3, .inl ((zg z).2 0, 160, .inl (fun _ => 0))) :: (q2, .inl ((zg z).2 0, 6, .inl (fun _ => 0))) :: (q1, .inl ((zg z).2 0, 960, .inl (fun _ => 0))) :: (t, .inr (5, [.int 0, .ref q1, .ref q2, .int 0, .int 0, .ref q3, .int 0, .int 35, .int 0, .int 0, .ref q4, .ref q5, .ref q6, .int 0, .int 0, .int 0, .int 0, .int 0, .int 0, .int 0, .int 0, .int 0, .int 0, .int 0, .int 0, .long 0, .int 0, .int 0, .int 0, .ref q7, .ref q8, .ref q9, .int 0, .int 0, .null, .null, .int 0, .int 0, .int 0, .int 0, .int 0, .null, .null, .null, .null])) :: E)) F lysX5 (ci := 5) rfl tyX5 tyX5_ok nmX5 hi 31 rfl wq847 rfl rfl rfl (by decide +kernel) rfl rfl (q0 := 9) rfl rfl rfl dX5_init_81 ?_
  refine g_aload_n F dX5_init_84 0 rfl ?_
  refine g_bipush (v := (36 : Int32)) F dX5_init_85 (by decide) ?_
  refine g_newaH F (by decide) rfl (by decide) rfl rfl dX5_init_87 (fun q10 => ?_)
  refine g_putF (ty := .array .int) (ws' := ((q10, .inl ((zg z).2 0, 36, .inl (fun _ => 0))) :: (q9, .inl ((zg z).2 0, 31, .inl (fun _ => 0))) :: (q8, .inl ((zg z).2 0, 36, .inl (fun _ => 0))) :: (q7, .inl ((zg z).2 0, 36, .inl (fun _ => 0))) :: (q6, .inl ((zg z).2 0, 18, .inl (fun _ => 0))) :: (q5, .inl ((zg z).2 0, 6, .inl (fun _ => 0))) :: (q4, .inl ((zg z).2 0, 36, .inl (fun _ => 0))) :: (q3, .inl ((zg z).2 0, 160, .inl (fun _ => 0))) :: (q2, .inl ((zg z).2 0, 6, .inl (fun _ => 0))) :: (q1, .inl ((zg z).2 0, 960, .inl (fun _ => 0))) :: (t, .inr (5, [.int 0, .ref q1, .ref q2, .int 0, .int 0, .ref q3, .int 0, .int 35, .int 0, .int 0, .ref q4, .ref q5, .ref q6, .int 0, .int 0, .int 0, .int 0, .int 0, .int 0, .int 0, .int 0, .int 0, .int 0, .int 0, .int 0, .long 0, .int 0, .int 0, .int 0, .ref q7, .ref q8, .ref q9, .int 0, .int 0, .ref q10, .null, .int 0, .int 0, .int 0, .int 0, .int 0, .null, .null, .null, .null])) :: E)) F lysX5 (ci := 5) rfl tyX5 tyX5_ok nmX5 hi 34 rfl wq850 rfl rfl rfl (by decide +kernel) rfl rfl (q0 := 10) rfl rfl rfl dX5_init_89 ?_
  refine g_aload_n F dX5_init_92 0 rfl ?_
  refine g_bipush (v := (18 : Int32)) F dX5_init_93 (by decide) ?_
  refine g_newaH F (by decide) rfl (by decide) rfl rfl dX5_init_95 (fun q11 => ?_)
  refine g_putF (ty := .array .int) (ws' := ((q11, .inl ((zg z).2 0, 18, .inl (fun _ => 0))) :: (q10, .inl ((zg z).2 0, 36, .inl (fun _ => 0))) :: (q9, .inl ((zg z).2 0, 31, .inl (fun _ => 0))) :: (q8, .inl ((zg z).2 0, 36, .inl (fun _ => 0))) :: (q7, .inl ((zg z).2 0, 36, .inl (fun _ => 0))) :: (q6, .inl ((zg z).2 0, 18, .inl (fun _ => 0))) :: (q5, .inl ((zg z).2 0, 6, .inl (fun _ => 0))) :: (q4, .inl ((zg z).2 0, 36, .inl (fun _ => 0))) :: (q3, .inl ((zg z).2 0, 160, .inl (fun _ => 0))) :: (q2, .inl ((zg z).2 0, 6, .inl (fun _ => 0))) :: (q1, .inl ((zg z).2 0, 960, .inl (fun _ => 0))) :: (t, .inr (5, [.int 0, .ref q1, .ref q2, .int 0, .int 0, .ref q3, .int 0, .int 35, .int 0, .int 0, .ref q4, .ref q5, .ref q6, .int 0, .int 0, .int 0, .int 0, .int 0, .int 0, .int 0, .int 0, .int 0, .int 0, .int 0, .int 0, .long 0, .int 0, .int 0, .int 0, .ref q7, .ref q8, .ref q9, .int 0, .int 0, .ref q10, .ref q11, .int 0, .int 0, .int 0, .int 0, .int 0, .null, .null, .null, .null])) :: E)) F lysX5 (ci := 5) rfl tyX5 tyX5_ok nmX5 hi 35 rfl wq851 rfl rfl rfl (by decide +kernel) rfl rfl (q0 := 11) rfl rfl rfl dX5_init_97 ?_
  refine g_aload_n F dX5_init_100 0 rfl ?_
  refine g_iconst (v := (-1 : Int32)) F dX5_init_101 (by decide) ?_
  refine g_putf (ty := .int) (ws' := ((q11, .inl ((zg z).2 0, 18, .inl (fun _ => 0))) :: (q10, .inl ((zg z).2 0, 36, .inl (fun _ => 0))) :: (q9, .inl ((zg z).2 0, 31, .inl (fun _ => 0))) :: (q8, .inl ((zg z).2 0, 36, .inl (fun _ => 0))) :: (q7, .inl ((zg z).2 0, 36, .inl (fun _ => 0))) :: (q6, .inl ((zg z).2 0, 18, .inl (fun _ => 0))) :: (q5, .inl ((zg z).2 0, 6, .inl (fun _ => 0))) :: (q4, .inl ((zg z).2 0, 36, .inl (fun _ => 0))) :: (q3, .inl ((zg z).2 0, 160, .inl (fun _ => 0))) :: (q2, .inl ((zg z).2 0, 6, .inl (fun _ => 0))) :: (q1, .inl ((zg z).2 0, 960, .inl (fun _ => 0))) :: (t, .inr (5, [.int 0, .ref q1, .ref q2, .int 0, .int 0, .ref q3, .int 0, .int 35, .int 0, .int 0, .ref q4, .ref q5, .ref q6, .int 0, .int 0, .int 0, .int 0, .int 0, .int 0, .int 0, .int 0, .int 0, .int 0, .int 0, .int 0, .long 0, .int 0, .int 0, .int 0, .ref q7, .ref q8, .ref q9, .int 0, .int 0, .ref q10, .ref q11, .int (-1), .int 0, .int 0, .int 0, .int 0, .null, .null, .null, .null])) :: E)) F lysX5 (ci := 5) rfl tyX5 tyX5_ok nmX5 36 rfl wq852 rfl rfl (by decide +kernel) rfl rfl (q0 := 11) rfl rfl rfl dX5_init_102 ?_
  refine g_aload_n F dX5_init_105 0 rfl ?_
  refine g_iconst (v := (4 : Int32)) F dX5_init_106 (by decide) ?_
  refine g_newzH F (by decide) rfl (by decide) rfl rfl dX5_init_107 (fun q12 => ?_)
  refine g_putF (ty := .array .boolean) (ws' := ((q12, .inl ((zg z).2 1, 4, .inl (fun _ => 0))) :: (q11, .inl ((zg z).2 0, 18, .inl (fun _ => 0))) :: (q10, .inl ((zg z).2 0, 36, .inl (fun _ => 0))) :: (q9, .inl ((zg z).2 0, 31, .inl (fun _ => 0))) :: (q8, .inl ((zg z).2 0, 36, .inl (fun _ => 0))) :: (q7, .inl ((zg z).2 0, 36, .inl (fun _ => 0))) :: (q6, .inl ((zg z).2 0, 18, .inl (fun _ => 0))) :: (q5, .inl ((zg z).2 0, 6, .inl (fun _ => 0))) :: (q4, .inl ((zg z).2 0, 36, .inl (fun _ => 0))) :: (q3, .inl ((zg z).2 0, 160, .inl (fun _ => 0))) :: (q2, .inl ((zg z).2 0, 6, .inl (fun _ => 0))) :: (q1, .inl ((zg z).2 0, 960, .inl (fun _ => 0))) :: (t, .inr (5, [.int 0, .ref q1, .ref q2, .int 0, .int 0, .ref q3, .int 0, .int 35, .int 0, .int 0, .ref q4, .ref q5, .ref q6, .int 0, .int 0, .int 0, .int 0, .int 0, .int 0, .int 0, .int 0, .int 0, .int 0, .int 0, .int 0, .long 0, .int 0, .int 0, .int 0, .ref q7, .ref q8, .ref q9, .int 0, .int 0, .ref q10, .ref q11, .int (-1), .int 0, .int 0, .int 0, .int 0, .ref q12, .null, .null, .null])) :: E)) F lysX5 (ci := 5) rfl tyX5 tyX5_ok nmX5 hi 41 rfl wq857 rfl rfl rfl (by decide +kernel) rfl rfl (q0 := 12) rfl rfl rfl dX5_init_109 ?_
  refine g_aload_n F dX5_init_112 0 rfl ?_
  refine g_iconst (v := (4 : Int32)) F dX5_init_113 (by decide) ?_
  refine g_newaH F (by decide) rfl (by decide) rfl rfl dX5_init_114 (fun q13 => ?_)
  refine g_putF (ty := .array .int) (ws' := ((q13, .inl ((zg z).2 0, 4, .inl (fun _ => 0))) :: (q12, .inl ((zg z).2 1, 4, .inl (fun _ => 0))) :: (q11, .inl ((zg z).2 0, 18, .inl (fun _ => 0))) :: (q10, .inl ((zg z).2 0, 36, .inl (fun _ => 0))) :: (q9, .inl ((zg z).2 0, 31, .inl (fun _ => 0))) :: (q8, .inl ((zg z).2 0, 36, .inl (fun _ => 0))) :: (q7, .inl ((zg z).2 0, 36, .inl (fun _ => 0))) :: (q6, .inl ((zg z).2 0, 18, .inl (fun _ => 0))) :: (q5, .inl ((zg z).2 0, 6, .inl (fun _ => 0))) :: (q4, .inl ((zg z).2 0, 36, .inl (fun _ => 0))) :: (q3, .inl ((zg z).2 0, 160, .inl (fun _ => 0))) :: (q2, .inl ((zg z).2 0, 6, .inl (fun _ => 0))) :: (q1, .inl ((zg z).2 0, 960, .inl (fun _ => 0))) :: (t, .inr (5, [.int 0, .ref q1, .ref q2, .int 0, .int 0, .ref q3, .int 0, .int 35, .int 0, .int 0, .ref q4, .ref q5, .ref q6, .int 0, .int 0, .int 0, .int 0, .int 0, .int 0, .int 0, .int 0, .int 0, .int 0, .int 0, .int 0, .long 0, .int 0, .int 0, .int 0, .ref q7, .ref q8, .ref q9, .int 0, .int 0, .ref q10, .ref q11, .int (-1), .int 0, .int 0, .int 0, .int 0, .ref q12, .ref q13, .null, .null])) :: E)) F lysX5 (ci := 5) rfl tyX5 tyX5_ok nmX5 hi 42 rfl wq858 rfl rfl rfl (by decide +kernel) rfl rfl (q0 := 13) rfl rfl rfl dX5_init_116 ?_
  refine g_aload_n F dX5_init_119 0 rfl ?_
  refine g_iconst (v := (4 : Int32)) F dX5_init_120 (by decide) ?_
  refine g_newaH F (by decide) rfl (by decide) rfl rfl dX5_init_121 (fun q14 => ?_)
  refine g_putF (ty := .array .int) (ws' := ((q14, .inl ((zg z).2 0, 4, .inl (fun _ => 0))) :: (q13, .inl ((zg z).2 0, 4, .inl (fun _ => 0))) :: (q12, .inl ((zg z).2 1, 4, .inl (fun _ => 0))) :: (q11, .inl ((zg z).2 0, 18, .inl (fun _ => 0))) :: (q10, .inl ((zg z).2 0, 36, .inl (fun _ => 0))) :: (q9, .inl ((zg z).2 0, 31, .inl (fun _ => 0))) :: (q8, .inl ((zg z).2 0, 36, .inl (fun _ => 0))) :: (q7, .inl ((zg z).2 0, 36, .inl (fun _ => 0))) :: (q6, .inl ((zg z).2 0, 18, .inl (fun _ => 0))) :: (q5, .inl ((zg z).2 0, 6, .inl (fun _ => 0))) :: (q4, .inl ((zg z).2 0, 36, .inl (fun _ => 0))) :: (q3, .inl ((zg z).2 0, 160, .inl (fun _ => 0))) :: (q2, .inl ((zg z).2 0, 6, .inl (fun _ => 0))) :: (q1, .inl ((zg z).2 0, 960, .inl (fun _ => 0))) :: (t, .inr (5, [.int 0, .ref q1, .ref q2, .int 0, .int 0, .ref q3, .int 0, .int 35, .int 0, .int 0, .ref q4, .ref q5, .ref q6, .int 0, .int 0, .int 0, .int 0, .int 0, .int 0, .int 0, .int 0, .int 0, .int 0, .int 0, .int 0, .long 0, .int 0, .int 0, .int 0, .ref q7, .ref q8, .ref q9, .int 0, .int 0, .ref q10, .ref q11, .int (-1), .int 0, .int 0, .int 0, .int 0, .ref q12, .ref q13, .ref q14, .null])) :: E)) F lysX5 (ci := 5) rfl tyX5 tyX5_ok nmX5 hi 43 rfl wq859 rfl rfl rfl (by decide +kernel) rfl rfl (q0 := 14) rfl rfl rfl dX5_init_123 ?_
  refine g_aload_n F dX5_init_126 0 rfl ?_
  refine g_sipush (v := (160 : Int32)) F dX5_init_127 (by decide) ?_
  refine g_newaH F (by decide) rfl (by decide) rfl rfl dX5_init_130 (fun q15 => ?_)
  refine g_putF (ty := .array .int) (ws' := ((q15, .inl ((zg z).2 0, 160, .inl (fun _ => 0))) :: (q14, .inl ((zg z).2 0, 4, .inl (fun _ => 0))) :: (q13, .inl ((zg z).2 0, 4, .inl (fun _ => 0))) :: (q12, .inl ((zg z).2 1, 4, .inl (fun _ => 0))) :: (q11, .inl ((zg z).2 0, 18, .inl (fun _ => 0))) :: (q10, .inl ((zg z).2 0, 36, .inl (fun _ => 0))) :: (q9, .inl ((zg z).2 0, 31, .inl (fun _ => 0))) :: (q8, .inl ((zg z).2 0, 36, .inl (fun _ => 0))) :: (q7, .inl ((zg z).2 0, 36, .inl (fun _ => 0))) :: (q6, .inl ((zg z).2 0, 18, .inl (fun _ => 0))) :: (q5, .inl ((zg z).2 0, 6, .inl (fun _ => 0))) :: (q4, .inl ((zg z).2 0, 36, .inl (fun _ => 0))) :: (q3, .inl ((zg z).2 0, 160, .inl (fun _ => 0))) :: (q2, .inl ((zg z).2 0, 6, .inl (fun _ => 0))) :: (q1, .inl ((zg z).2 0, 960, .inl (fun _ => 0))) :: (t, .inr (5, [.int 0, .ref q1, .ref q2, .int 0, .int 0, .ref q3, .int 0, .int 35, .int 0, .int 0, .ref q4, .ref q5, .ref q6, .int 0, .int 0, .int 0, .int 0, .int 0, .int 0, .int 0, .int 0, .int 0, .int 0, .int 0, .int 0, .long 0, .int 0, .int 0, .int 0, .ref q7, .ref q8, .ref q9, .int 0, .int 0, .ref q10, .ref q11, .int (-1), .int 0, .int 0, .int 0, .int 0, .ref q12, .ref q13, .ref q14, .ref q15])) :: E)) F lysX5 (ci := 5) rfl tyX5 tyX5_ok nmX5 hi 44 rfl wq860 rfl rfl rfl (by decide +kernel) rfl rfl (q0 := 15) rfl rfl rfl dX5_init_132 ?_
  refine g_iconst (v := (0 : Int32)) F dX5_init_135 (by decide) ?_
  refine g_istore_n (lv' := [(1, .int 0), (0, .ref t)]) F dX5_init_136 rfl rfl ?_
  refine g_part (X := [(q15, .inl ((zg z).2 0, 160, .inl (fun _ => 0))), (q14, .inl ((zg z).2 0, 4, .inl (fun _ => 0))), (q13, .inl ((zg z).2 0, 4, .inl (fun _ => 0))), (q12, .inl ((zg z).2 1, 4, .inl (fun _ => 0))), (q11, .inl ((zg z).2 0, 18, .inl (fun _ => 0))), (q10, .inl ((zg z).2 0, 36, .inl (fun _ => 0))), (q9, .inl ((zg z).2 0, 31, .inl (fun _ => 0))), (q8, .inl ((zg z).2 0, 36, .inl (fun _ => 0))), (q7, .inl ((zg z).2 0, 36, .inl (fun _ => 0))), (q6, .inl ((zg z).2 0, 18, .inl (fun _ => 0))), (q5, .inl ((zg z).2 0, 6, .inl (fun _ => 0))), (q4, .inl ((zg z).2 0, 36, .inl (fun _ => 0))), (q3, .inl ((zg z).2 0, 160, .inl (fun _ => 0))), (q2, .inl ((zg z).2 0, 6, .inl (fun _ => 0))), (q1, .inl ((zg z).2 0, 960, .inl (fun _ => 0))), (t, .inr (5, [.int 0, .ref q1, .ref q2, .int 0, .int 0, .ref q3, .int 0, .int 35, .int 0, .int 0, .ref q4, .ref q5, .ref q6, .int 0, .int 0, .int 0, .int 0, .int 0, .int 0, .int 0, .int 0, .int 0, .int 0, .int 0, .int 0, .long 0, .int 0, .int 0, .int 0, .ref q7, .ref q8, .ref q9, .int 0, .int 0, .ref q10, .ref q11, .int (-1), .int 0, .int 0, .int 0, .int 0, .ref q12, .ref q13, .ref q14, .ref q15]))]) (pl := E) (mW (zg z) (fun i => [t, q1, q2, q3, q4, q5, q6, q7, q8, q9, q10, q11, q12, q13, q14, q15].getD i 0) [] mSz) [15, 14, 13, 12, 11, 10, 9, 8, 7, 6, 5, 4, 3, 2, 1, 0] rfl rfl ?_
  rw [← mSi_0]
  exact m_loop (a := fun i => [t, q1, q2, q3, q4, q5, q6, q7, q8, q9, q10, q11, q12, q13, q14, q15].getD i 0) F (m_tail F R) 12 0 rfl
