/-! the constructors of the fen, the reader, the sheets -/
theorem wq135 : Cond.methodLink "DrainedForAThird$Fen" 3 Lib.objectInit ∈ kWD := kWD_of 135 (by decide +kernel) (by decide +kernel)
/-- a fen just made, in front -/
def fnF (a : Nat → Nat) (σ : kS) : List Value := [.ref (a 1), .ref (a 2), .ref (a 3), .ref (a 4), .ref (a 5), .ref (a 6), .ref (a 7), .ref (a 8), .int (σ.1 0 8), .int (σ.1 0 9), .int (σ.1 0 10), .int (σ.1 0 11), .int (σ.1 0 12)]
def fnL (g : kG) (a : Nat → Nat) (σ : kS) : va_W := [(a 0, .inr (0, fnF a σ)), (a 1, .inl (g.2 0, 12, .inl (σ.1 1))), (a 2, .inl (g.2 0, 12, .inl (σ.1 2))), (a 3, .inl (g.2 0, 12, .inl (σ.1 3))), (a 4, .inl (g.2 0, 6, .inl (σ.1 4))), (a 5, .inl (g.2 0, 6, .inl (σ.1 5))), (a 6, .inl (g.2 0, 6, .inl (σ.1 6))), (a 7, .inl (g.2 0, 6, .inl (σ.1 7))), (a 8, .inl (g.2 0, 31, .inl (σ.1 8)))]
def fnW (g : kG) (a : Nat → Nat) (E : va_W) (σ : kS) : va_W := fnL g a σ ++ E
theorem fnA1 {g : kG} {a : Nat → Nat} {E : va_W} : kArr (fnW g a E) g (a 1) 1 12 0 := fun σ => ⟨rfl, fun f => rfl⟩
theorem fnA2 {g : kG} {a : Nat → Nat} {E : va_W} : kArr (fnW g a E) g (a 2) 2 12 0 := fun σ => ⟨rfl, fun f => rfl⟩
theorem fnA3 {g : kG} {a : Nat → Nat} {E : va_W} : kArr (fnW g a E) g (a 3) 3 12 0 := fun σ => ⟨rfl, fun f => rfl⟩
def kUp (n : Nat) (v : Int32) : Nat → Int32 := fun j => if j < n then v else 0
theorem kUp_upd (n : Nat) (v : Int32) : upd (kUp n v) n v = kUp (n + 1) v := by
  funext j
  unfold upd kUp
  by_cases h : j = n
  · rw [if_pos h, if_pos (by omega)]
  · rw [if_neg h]
    by_cases h2 : j < n
    · rw [if_pos h2, if_pos (by omega)]
    · rw [if_neg h2, if_neg (by omega)]
def fnR : Nat → Int32 := fun j => if j = 8 then 35 else 0
/-- the numbers of a fen whose first i cells are made -/
def fnS (i : Nat) : kS := (fun p => match p with
  | 0 => fnR
  | 1 => kUp i 40
  | 2 => kUp i 20
  | 3 => kUp i 5
  | _ => fun _ => 0, 0)
def fnS0 : kS := (fun p => match p with
  | 0 => fnR
  | _ => fun _ => 0, 0)
theorem fnS_0 : fnS 0 = fnS0 := by
  refine Prod.ext (funext fun p => ?_) rfl
  match p with
  | 0 => rfl
  | 1 => exact funext fun j => if_neg (t := (40 : Int32)) (e := 0) (Nat.not_lt_zero j)
  | 2 => exact funext fun j => if_neg (t := (20 : Int32)) (e := 0) (Nat.not_lt_zero j)
  | 3 => exact funext fun j => if_neg (t := (5 : Int32)) (e := 0) (Nat.not_lt_zero j)
  | _ + 4 => rfl
theorem fnS_step (i : Nat) : kset (kset (kset (fnS i) 1 i 40) 2 i 20) 3 i 5 = fnS (i + 1) := by
  refine Prod.ext (funext fun p => ?_) rfl
  show (if p = 3 then upd _ i 5 else if p = 2 then upd _ i 20 else if p = 1 then upd _ i 40 else (fnS i).1 p) = (fnS (i + 1)).1 p
  by_cases h3 : p = 3
  · subst h3
    rw [if_pos rfl]
    exact kUp_upd i 5
  rw [if_neg h3]
  by_cases h2 : p = 2
  · subst h2
    rw [if_pos rfl]
    exact kUp_upd i 20
  rw [if_neg h2]
  by_cases h1 : p = 1
  · subst h1
    rw [if_pos rfl]
    exact kUp_upd i 40
  rw [if_neg h1]
  match p, h1, h2, h3 with
  | 0, _, _, _ => rfl
  | _ + 4, _, _, _ => rfl
theorem i_n {i : Nat} (h : i < 1000) : (Int32.ofNat i).toInt = i := by
  rw [Int32.toInt_ofNat', i_bm (by omega)]
theorem i_nN {i : Nat} (h : i < 1000) : (Int32.ofNat i).toNatClampNeg = i := by
  show (Int32.ofNat i).toInt.toNat = i
  rw [i_n h]
  rfl
theorem i_nin {i n : Nat} (h : i < n) (hn : n < 1000) : vp_in (Int32.ofNat i) n := by
  rw [vp_in_iff, i_n (by omega)]
  omega
theorem i_n1 {i : Nat} : Int32.ofNat i + 1 = Int32.ofNat (i + 1) := (Int32.ofNat_add i 1).symm
def fnPs (g : kG) (t : Nat) (E : va_W) : Option Value → va_W → Prop := fun r ws => r = none ∧ ∃ a : Nat → Nat, a 0 = t ∧ ws = fnW g a E (fnS 12)
theorem fn_loop {z : kZ} {a : Nat → Nat} {E : va_W} (F : kF z cX0_init RX0 2 { frames := 1, cells := 8, slots := 91, locals := 80 }) (R : kR z none 8 91 (fnPs (zg z) (a 0) E)) : ∀ k i : Nat, i + k = 12 → kV z (fnW (zg z) a E (fnS i)) 8 91 76 [(1, .int (Int32.ofNat i)), (0, .ref (a 0))] []
  | 0, i, h => by
    have hi : i = 12 := by omega
    subst hi
    refine g_iload_n F dX0_init_76 0 rfl ?_
    refine g_bipush (v := (12 : Int32)) F dX0_init_77 (by decide) ?_
    refine g_icmp_ge F dX0_init_79 (tgt := 111) (by decide) (fun _ => ?_) (fun c => absurd (by decide) c)
    exact g_vret F R rfl rfl dX0_init_111 ⟨rfl, a, rfl, rfl⟩
  | k + 1, i, h => by
    have hi : i < 12 := by omega
    refine g_iload_n F dX0_init_76 0 rfl ?_
    refine g_bipush (v := (12 : Int32)) F dX0_init_77 (by decide) ?_
    refine g_icmp_ge F dX0_init_79 (tgt := 111) (by decide) (fun c => ?_) (fun _ => ?_)
    · exfalso
      rw [i_le, i_n (by omega)] at c
      have e : (12 : Int32).toInt = 12 := by decide
      omega
    refine g_aload_n F dX0_init_82 1 rfl ?_
    refine g_getf F lysX0 (ci := 0) rfl 0 rfl wq136 rfl (q0 := 0) rfl rfl dX0_init_83 ?_
    refine g_iload_n F dX0_init_86 0 rfl ?_
    refine g_bipush (v := (40 : Int32)) F dX0_init_87 (by decide) ?_
    refine g_iast (wf := fnW (zg z) a E) F fnA1 (i_nin hi (by omega)) dX0_init_89 ?_
    refine g_aload_n F dX0_init_90 1 rfl ?_
    refine g_getf F lysX0 (ci := 0) rfl 1 rfl wq137 rfl (q0 := 0) rfl rfl dX0_init_91 ?_
    refine g_iload_n F dX0_init_94 0 rfl ?_
    refine g_bipush (v := (20 : Int32)) F dX0_init_95 (by decide) ?_
    refine g_iast (wf := fnW (zg z) a E) F fnA2 (i_nin hi (by omega)) dX0_init_97 ?_
    refine g_aload_n F dX0_init_98 1 rfl ?_
    refine g_getf F lysX0 (ci := 0) rfl 2 rfl wq138 rfl (q0 := 0) rfl rfl dX0_init_99 ?_
    refine g_iload_n F dX0_init_102 0 rfl ?_
    refine g_iconst (v := (5 : Int32)) F dX0_init_103 (by decide) ?_
    refine g_iast (wf := fnW (zg z) a E) F fnA3 (i_nin hi (by omega)) dX0_init_104 ?_
    rw [i_nN (by omega), fnS_step]
    refine g_iinc (lv' := [(1, .int (Int32.ofNat (i + 1))), (0, .ref (a 0))]) F dX0_init_105 rfl 0 rfl (d := 1) (by decide) i_n1 rfl ?_
    refine g_goto F dX0_init_108 (tgt := 76) (by decide) ?_
    exact fn_loop F R k (i + 1) (by omega)
theorem ctX0_init (l : Launch) (g : kG) (A : Nat → Prop) (E : va_W) {t : Nat} : kCt l yX0_init cX0_init 2 none 1 80 8 91 g A [.ref t] ((t, .inr (0, [.null, .null, .null, .null, .null, .null, .null, .null, .int 0, .int 0, .int 0, .int 0, .int 0])) :: E) (fnPs g t E) := by
  refine kCt.ofN (lv0 := [(0, .ref t)]) (by decide +kernel) (Nat.le_of_ble_eq_true rfl) rfl (fun z hl hg hA hi F R => ?_)
  subst hl hg hA
  have F : kF z cX0_init RX0 2 { frames := 1, cells := 8, slots := 91, locals := 80 } := F
  have hi : (zM z).name = "<init>" := hi
  refine g_aload_n F dX0_init_0 0 rfl ?_
  refine g_init0 F wq135 wq128 wq129 dX0_init_1 rfl ?_
  refine g_aload_n F dX0_init_4 0 rfl ?_
  refine g_bipush (v := (12 : Int32)) F dX0_init_5 (by decide) ?_
  refine g_newaH F (by decide) rfl (by decide) rfl rfl dX0_init_7 (fun q1 => ?_)
  refine g_putF (ty := .array .int) (ws' := ((q1, .inl ((zg z).2 0, 12, .inl (fun _ => 0))) :: (t, .inr (0, [.ref q1, .null, .null, .null, .null, .null, .null, .null, .int 0, .int 0, .int 0, .int 0, .int 0])) :: E)) F lysX0 (ci := 0) rfl tyX0 tyX0_ok nmX0 hi 0 rfl wq136 rfl rfl rfl (by decide +kernel) rfl rfl (q0 := 1) rfl rfl rfl dX0_init_9 ?_
  refine g_aload_n F dX0_init_12 0 rfl ?_
  refine g_bipush (v := (12 : Int32)) F dX0_init_13 (by decide) ?_
  refine g_newaH F (by decide) rfl (by decide) rfl rfl dX0_init_15 (fun q2 => ?_)
  refine g_putF (ty := .array .int) (ws' := ((q2, .inl ((zg z).2 0, 12, .inl (fun _ => 0))) :: (q1, .inl ((zg z).2 0, 12, .inl (fun _ => 0))) :: (t, .inr (0, [.ref q1, .ref q2, .null, .null, .null, .null, .null, .null, .int 0, .int 0, .int 0, .int 0, .int 0])) :: E)) F lysX0 (ci := 0) rfl tyX0 tyX0_ok nmX0 hi 1 rfl wq137 rfl rfl rfl (by decide +kernel) rfl rfl (q0 := 2) rfl rfl rfl dX0_init_17 ?_
  refine g_aload_n F dX0_init_20 0 rfl ?_
  refine g_bipush (v := (12 : Int32)) F dX0_init_21 (by decide) ?_
  refine g_newaH F (by decide) rfl (by decide) rfl rfl dX0_init_23 (fun q3 => ?_)
  refine g_putF (ty := .array .int) (ws' := ((q3, .inl ((zg z).2 0, 12, .inl (fun _ => 0))) :: (q2, .inl ((zg z).2 0, 12, .inl (fun _ => 0))) :: (q1, .inl ((zg z).2 0, 12, .inl (fun _ => 0))) :: (t, .inr (0, [.ref q1, .ref q2, .ref q3, .null, .null, .null, .null, .null, .int 0, .int 0, .int 0, .int 0, .int 0])) :: E)) F lysX0 (ci := 0) rfl tyX0 tyX0_ok nmX0 hi 2 rfl wq138 rfl rfl rfl (by decide +kernel) rfl rfl (q0 := 3) rfl rfl rfl dX0_init_25 ?_
  refine g_aload_n F dX0_init_28 0 rfl ?_
  refine g_bipush (v := (6 : Int32)) F dX0_init_29 (by decide) ?_
  refine g_newaH F (by decide) rfl (by decide) rfl rfl dX0_init_31 (fun q4 => ?_)
  refine g_putF (ty := .array .int) (ws' := ((q4, .inl ((zg z).2 0, 6, .inl (fun _ => 0))) :: (q3, .inl ((zg z).2 0, 12, .inl (fun _ => 0))) :: (q2, .inl ((zg z).2 0, 12, .inl (fun _ => 0))) :: (q1, .inl ((zg z).2 0, 12, .inl (fun _ => 0))) :: (t, .inr (0, [.ref q1, .ref q2, .ref q3, .ref q4, .null, .null, .null, .null, .int 0, .int 0, .int 0, .int 0, .int 0])) :: E)) F lysX0 (ci := 0) rfl tyX0 tyX0_ok nmX0 hi 3 rfl wq139 rfl rfl rfl (by decide +kernel) rfl rfl (q0 := 4) rfl rfl rfl dX0_init_33 ?_
  refine g_aload_n F dX0_init_36 0 rfl ?_
  refine g_bipush (v := (6 : Int32)) F dX0_init_37 (by decide) ?_
  refine g_newaH F (by decide) rfl (by decide) rfl rfl dX0_init_39 (fun q5 => ?_)
  refine g_putF (ty := .array .int) (ws' := ((q5, .inl ((zg z).2 0, 6, .inl (fun _ => 0))) :: (q4, .inl ((zg z).2 0, 6, .inl (fun _ => 0))) :: (q3, .inl ((zg z).2 0, 12, .inl (fun _ => 0))) :: (q2, .inl ((zg z).2 0, 12, .inl (fun _ => 0))) :: (q1, .inl ((zg z).2 0, 12, .inl (fun _ => 0))) :: (t, .inr (0, [.ref q1, .ref q2, .ref q3, .ref q4, .ref q5, .null, .null, .null, .int 0, .int 0, .int 0, .int 0, .int 0])) :: E)) F lysX0 (ci := 0) rfl tyX0 tyX0_ok nmX0 hi 4 rfl wq140 rfl rfl rfl (by decide +kernel) rfl rfl (q0 := 5) rfl rfl rfl dX0_init_41 ?_
  refine g_aload_n F dX0_init_44 0 rfl ?_
  refine g_bipush (v := (6 : Int32)) F dX0_init_45 (by decide) ?_
  refine g_newaH F (by decide) rfl (by decide) rfl rfl dX0_init_47 (fun q6 => ?_)
  refine g_putF (ty := .array .int) (ws' := ((q6, .inl ((zg z).2 0, 6, .inl (fun _ => 0))) :: (q5, .inl ((zg z).2 0, 6, .inl (fun _ => 0))) :: (q4, .inl ((zg z).2 0, 6, .inl (fun _ => 0))) :: (q3, .inl ((zg z).2 0, 12, .inl (fun _ => 0))) :: (q2, .inl ((zg z).2 0, 12, .inl (fun _ => 0))) :: (q1, .inl ((zg z).2 0, 12, .inl (fun _ => 0))) :: (t, .inr (0, [.ref q1, .ref q2, .ref q3, .ref q4, .ref q5, .ref q6, .null, .null, .int 0, .int 0, .int 0, .int 0, .int 0])) :: E)) F lysX0 (ci := 0) rfl tyX0 tyX0_ok nmX0 hi 5 rfl wq141 rfl rfl rfl (by decide +kernel) rfl rfl (q0 := 6) rfl rfl rfl dX0_init_49 ?_
  refine g_aload_n F dX0_init_52 0 rfl ?_
  refine g_bipush (v := (6 : Int32)) F dX0_init_53 (by decide) ?_
  refine g_newaH F (by decide) rfl (by decide) rfl rfl dX0_init_55 (fun q7 => ?_)
  refine g_putF (ty := .array .int) (ws' := ((q7, .inl ((zg z).2 0, 6, .inl (fun _ => 0))) :: (q6, .inl ((zg z).2 0, 6, .inl (fun _ => 0))) :: (q5, .inl ((zg z).2 0, 6, .inl (fun _ => 0))) :: (q4, .inl ((zg z).2 0, 6, .inl (fun _ => 0))) :: (q3, .inl ((zg z).2 0, 12, .inl (fun _ => 0))) :: (q2, .inl ((zg z).2 0, 12, .inl (fun _ => 0))) :: (q1, .inl ((zg z).2 0, 12, .inl (fun _ => 0))) :: (t, .inr (0, [.ref q1, .ref q2, .ref q3, .ref q4, .ref q5, .ref q6, .ref q7, .null, .int 0, .int 0, .int 0, .int 0, .int 0])) :: E)) F lysX0 (ci := 0) rfl tyX0 tyX0_ok nmX0 hi 6 rfl wq142 rfl rfl rfl (by decide +kernel) rfl rfl (q0 := 7) rfl rfl rfl dX0_init_57 ?_
  refine g_aload_n F dX0_init_60 0 rfl ?_
  refine g_bipush (v := (31 : Int32)) F dX0_init_61 (by decide) ?_
  refine g_newaH F (by decide) rfl (by decide) rfl rfl dX0_init_63 (fun q8 => ?_)
  refine g_putF (ty := .array .int) (ws' := ((q8, .inl ((zg z).2 0, 31, .inl (fun _ => 0))) :: (q7, .inl ((zg z).2 0, 6, .inl (fun _ => 0))) :: (q6, .inl ((zg z).2 0, 6, .inl (fun _ => 0))) :: (q5, .inl ((zg z).2 0, 6, .inl (fun _ => 0))) :: (q4, .inl ((zg z).2 0, 6, .inl (fun _ => 0))) :: (q3, .inl ((zg z).2 0, 12, .inl (fun _ => 0))) :: (q2, .inl ((zg z).2 0, 12, .inl (fun _ => 0))) :: (q1, .inl ((zg z).2 0, 12, .inl (fun _ => 0))) :: (t, .inr (0, [.ref q1, .ref q2, .ref q3, .ref q4, .ref q5, .ref q6, .ref q7, .ref q8, .int 0, .int 0, .int 0, .int 0, .int 0])) :: E)) F lysX0 (ci := 0) rfl tyX0 tyX0_ok nmX0 hi 7 rfl wq143 rfl rfl rfl (by decide +kernel) rfl rfl (q0 := 8) rfl rfl rfl dX0_init_65 ?_
  refine g_aload_n F dX0_init_68 0 rfl ?_
  refine g_bipush (v := (35 : Int32)) F dX0_init_69 (by decide) ?_
  refine g_putf (ty := .int) (ws' := ((q8, .inl ((zg z).2 0, 31, .inl (fun _ => 0))) :: (q7, .inl ((zg z).2 0, 6, .inl (fun _ => 0))) :: (q6, .inl ((zg z).2 0, 6, .inl (fun _ => 0))) :: (q5, .inl ((zg z).2 0, 6, .inl (fun _ => 0))) :: (q4, .inl ((zg z).2 0, 6, .inl (fun _ => 0))) :: (q3, .inl ((zg z).2 0, 12, .inl (fun _ => 0))) :: (q2, .inl ((zg z).2 0, 12, .inl (fun _ => 0))) :: (q1, .inl ((zg z).2 0, 12, .inl (fun _ => 0))) :: (t, .inr (0, [.ref q1, .ref q2, .ref q3, .ref q4, .ref q5, .ref q6, .ref q7, .ref q8, .int 35, .int 0, .int 0, .int 0, .int 0])) :: E)) F lysX0 (ci := 0) rfl tyX0 tyX0_ok nmX0 8 rfl wq144 rfl rfl (by decide +kernel) rfl rfl (q0 := 8) rfl rfl rfl dX0_init_71 ?_
  refine g_iconst (v := (0 : Int32)) F dX0_init_74 (by decide) ?_
  refine g_istore_n (lv' := [(1, .int 0), (0, .ref t)]) F dX0_init_75 rfl rfl ?_
  have e0 : (0 : Int32) = Int32.ofNat 0 := rfl
  refine g_part (X := [(q8, .inl ((zg z).2 0, 31, .inl (fun _ => 0))), (q7, .inl ((zg z).2 0, 6, .inl (fun _ => 0))), (q6, .inl ((zg z).2 0, 6, .inl (fun _ => 0))), (q5, .inl ((zg z).2 0, 6, .inl (fun _ => 0))), (q4, .inl ((zg z).2 0, 6, .inl (fun _ => 0))), (q3, .inl ((zg z).2 0, 12, .inl (fun _ => 0))), (q2, .inl ((zg z).2 0, 12, .inl (fun _ => 0))), (q1, .inl ((zg z).2 0, 12, .inl (fun _ => 0))), (t, .inr (0, [.ref q1, .ref q2, .ref q3, .ref q4, .ref q5, .ref q6, .ref q7, .ref q8, .int 35, .int 0, .int 0, .int 0, .int 0]))]) (pl := E) (fnL (zg z) (fun i => [t, q1, q2, q3, q4, q5, q6, q7, q8].getD i 0) fnS0) [8, 7, 6, 5, 4, 3, 2, 1, 0] rfl rfl ?_
  rw [← fnS_0]
  exact fn_loop (a := fun i => [t, q1, q2, q3, q4, q5, q6, q7, q8].getD i 0) F R 12 0 rfl
