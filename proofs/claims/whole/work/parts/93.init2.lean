/-! the constructors of the reader and of the sheets -/
theorem wq204 : Cond.methodLink "DrainedForAThird$Reader" 5 Lib.objectInit ∈ kWD := kWD_of 204 (by decide +kernel) (by decide +kernel)
theorem wq238 : Cond.methodLink "DrainedForAThird$Sheets" 3 Lib.objectInit ∈ kWD := kWD_of 238 (by decide +kernel) (by decide +kernel)
theorem wq239 : Cond.classLink "DrainedForAThird$Sheets" 9 "[[I" ∈ kWD := kWD_of 239 (by decide +kernel) (by decide +kernel)
/-- a reader just made, in front -/
def rdL (g : kG) (t q1 q2 : Nat) : va_W := [(t, .inr (1, [.ref q1, .int 0, .int 0, .int 0, .int 0, .int 0, .int 0, .ref q2, .int 0])), (q1, .inl (g.2 0, 160, .inl (fun _ => 0))), (q2, .inl (g.2 0, 160, .inl (fun _ => 0)))]
def rdPs (g : kG) (t : Nat) (E : va_W) : Option Value → va_W → Prop := fun r ws => r = none ∧ ∃ q1 q2 : Nat, ws = rdL g t q1 q2 ++ E
theorem ctX1_init (l : Launch) (g : kG) (A : Nat → Prop) (E : va_W) {t : Nat} : kCt l yX1_init cX1_init 1 none 1 80 2 320 g A [.ref t] ((t, .inr (1, [.null, .int 0, .int 0, .int 0, .int 0, .int 0, .int 0, .null, .int 0])) :: E) (rdPs g t E) := by
  refine kCt.ofN (lv0 := [(0, .ref t)]) (by decide +kernel) (Nat.le_of_ble_eq_true rfl) rfl (fun z hl hg hA hi F R => ?_)
  subst hl hg hA
  have F : kF z cX1_init RX1 1 { frames := 1, cells := 2, slots := 320, locals := 80 } := F
  have hi : (zM z).name = "<init>" := hi
  refine g_aload_n F dX1_init_0 0 rfl ?_
  refine g_init0 F wq204 wq128 wq129 dX1_init_1 rfl ?_
  refine g_aload_n F dX1_init_4 0 rfl ?_
  refine g_sipush (v := (160 : Int32)) F dX1_init_5 (by decide) ?_
  refine g_newaH F (by decide) rfl (by decide) rfl rfl dX1_init_8 (fun q1 => ?_)
  refine g_putF (ty := .array .int) (ws' := ((q1, .inl ((zg z).2 0, 160, .inl (fun _ => 0))) :: (t, .inr (1, [.ref q1, .int 0, .int 0, .int 0, .int 0, .int 0, .int 0, .null, .int 0])) :: E)) F lysX1 (ci := 1) rfl tyX1 tyX1_ok nmX1 hi 0 rfl wq205 rfl rfl rfl (by decide +kernel) rfl rfl (q0 := 1) rfl rfl rfl dX1_init_10 ?_
  refine g_aload_n F dX1_init_13 0 rfl ?_
  refine g_sipush (v := (160 : Int32)) F dX1_init_14 (by decide) ?_
  refine g_newaH F (by decide) rfl (by decide) rfl rfl dX1_init_17 (fun q2 => ?_)
  refine g_putF (ty := .array .int) (ws' := ((q2, .inl ((zg z).2 0, 160, .inl (fun _ => 0))) :: (q1, .inl ((zg z).2 0, 160, .inl (fun _ => 0))) :: (t, .inr (1, [.ref q1, .int 0, .int 0, .int 0, .int 0, .int 0, .int 0, .ref q2, .int 0])) :: E)) F lysX1 (ci := 1) rfl tyX1 tyX1_ok nmX1 hi 7 rfl wq212 rfl rfl rfl (by decide +kernel) rfl rfl (q0 := 2) rfl rfl rfl dX1_init_19 ?_
  refine g_part (X := [(q2, .inl ((zg z).2 0, 160, .inl (fun _ => 0))), (q1, .inl ((zg z).2 0, 160, .inl (fun _ => 0))), (t, .inr (1, [.ref q1, .int 0, .int 0, .int 0, .int 0, .int 0, .int 0, .ref q2, .int 0]))]) (pl := E) (rdL (zg z) t q1 q2) [2, 1, 0] rfl rfl ?_
  exact g_vret F R rfl rfl dX1_init_22 ⟨rfl, q1, q2, rfl⟩
/-- sheets just made, in front -/
def shL (g : kG) (t q q1 q2 : Nat) : va_W := (t, .inr (2, [.ref q, .ref q1, .ref q2])) :: (kRows4 g q ++ [(q1, .inl (g.2 0, 4, .inl (kUp 4 (-1)))), (q2, .inl (g.2 0, 4, .inl (fun _ => 0)))])
def shPs (g : kG) (t : Nat) (E : va_W) : Option Value → va_W → Prop := fun r ws => r = none ∧ ∃ q q1 q2 : Nat, ws = shL g t q q1 q2 ++ E
theorem sh_loop {z : kZ} {ws0 : va_W} {t q1 p : Nat} {x y : Value} (F : kF z cX2_init RX2 2 { frames := 1, cells := 7, slots := 172, locals := 80 }) (hp : ws0[p]? = some (t, .inr (2, [x, .ref q1, y]))) (kk : kV z ((q1, .inl ((zg z).2 0, 4, .inl (kUp 4 (-1)))) :: ws0) 7 172 49 [(1, .int 4), (0, .ref t)] []) : ∀ k i : Nat, i + k = 4 → kV z ((q1, .inl ((zg z).2 0, 4, .inl (kUp i (-1)))) :: ws0) 7 172 31 [(1, .int (Int32.ofNat i)), (0, .ref t)] []
  | 0, i, h => by
    have hi : i = 4 := by omega
    subst hi
    refine g_iload_n F dX2_init_31 0 rfl ?_
    refine g_iconst (v := (4 : Int32)) F dX2_init_32 (by decide) ?_
    exact g_icmp_ge F dX2_init_33 (tgt := 49) (by decide) (fun _ => kk) (fun c => absurd (by decide) c)
  | k + 1, i, h => by
    have hi : i < 4 := by omega
    refine g_iload_n F dX2_init_31 0 rfl ?_
    refine g_iconst (v := (4 : Int32)) F dX2_init_32 (by decide) ?_
    refine g_icmp_ge F dX2_init_33 (tgt := 49) (by decide) (fun c => ?_) (fun _ => ?_)
    · exfalso
      rw [i_le, i_n (by omega)] at c
      have e : (4 : Int32).toInt = 4 := by decide
      omega
    refine g_aload_n F dX2_init_36 1 rfl ?_
    refine g_getf F lysX2 (ci := 2) rfl 1 rfl wq242 rfl (q0 := p + 1) hp rfl dX2_init_37 ?_
    refine g_iload_n F dX2_init_40 0 rfl ?_
    refine g_iconst (v := (-1 : Int32)) F dX2_init_41 (by decide) ?_
    refine g_iastH F (i_nin hi (by omega)) dX2_init_42 ?_
    rw [i_nN (by omega), kUp_upd]
    refine g_iinc (lv' := [(1, .int (Int32.ofNat (i + 1))), (0, .ref t)]) F dX2_init_43 rfl 0 rfl (d := 1) (by decide) i_n1 rfl ?_
    refine g_goto F dX2_init_46 (tgt := 31) (by decide) ?_
    exact sh_loop F hp kk k (i + 1) (by omega)
theorem ctX2_init (l : Launch) (g : kG) (A : Nat → Prop) (E : va_W) {t : Nat} : kCt l yX2_init cX2_init 2 none 1 80 7 172 g A [.ref t] ((t, .inr (2, [.null, .null, .null])) :: E) (shPs g t E) := by
  refine kCt.ofN (lv0 := [(0, .ref t)]) (by decide +kernel) (Nat.le_of_ble_eq_true rfl) rfl (fun z hl hg hA hi F R => ?_)
  subst hl hg hA
  have F : kF z cX2_init RX2 2 { frames := 1, cells := 7, slots := 172, locals := 80 } := F
  have hi : (zM z).name = "<init>" := hi
  refine g_aload_n F dX2_init_0 0 rfl ?_
  refine g_init0 F wq238 wq128 wq129 dX2_init_1 rfl ?_
  refine g_aload_n F dX2_init_4 0 rfl ?_
  refine g_iconst (v := (4 : Int32)) F dX2_init_5 (by decide) ?_
  refine g_bipush (v := (40 : Int32)) F dX2_init_6 (by decide) ?_
  refine g_many F wq239 rfl rfl dX2_init_8 (fun q => ?_)
  refine g_putF (ty := .array (.array .int)) (ws' := ((q, .inl ((zg z).2 3, 4, .inr (.inr (.inr (.inr (fun i => if i < 4 then some (q + 1 + i) else none)))))) :: (q + 1 + 0, .inl ((zg z).2 0, 40, .inl (fun _ => 0))) :: (q + 1 + 1, .inl ((zg z).2 0, 40, .inl (fun _ => 0))) :: (q + 1 + 2, .inl ((zg z).2 0, 40, .inl (fun _ => 0))) :: (q + 1 + 3, .inl ((zg z).2 0, 40, .inl (fun _ => 0))) :: (t, .inr (2, [.ref q, .null, .null])) :: E)) F lysX2 (ci := 2) rfl tyX2 tyX2_ok nmX2 hi 0 rfl wq241 rfl rfl rfl (by decide +kernel) rfl rfl (q0 := 5) rfl rfl rfl dX2_init_12 ?_
  refine g_aload_n F dX2_init_15 0 rfl ?_
  refine g_iconst (v := (4 : Int32)) F dX2_init_16 (by decide) ?_
  refine g_newaH F (by decide) rfl (by decide) rfl rfl dX2_init_17 (fun q1 => ?_)
  refine g_putF (ty := .array .int) (ws' := ((q1, .inl ((zg z).2 0, 4, .inl (fun _ => 0))) :: (q, .inl ((zg z).2 3, 4, .inr (.inr (.inr (.inr (fun i => if i < 4 then some (q + 1 + i) else none)))))) :: (q + 1 + 0, .inl ((zg z).2 0, 40, .inl (fun _ => 0))) :: (q + 1 + 1, .inl ((zg z).2 0, 40, .inl (fun _ => 0))) :: (q + 1 + 2, .inl ((zg z).2 0, 40, .inl (fun _ => 0))) :: (q + 1 + 3, .inl ((zg z).2 0, 40, .inl (fun _ => 0))) :: (t, .inr (2, [.ref q, .ref q1, .null])) :: E)) F lysX2 (ci := 2) rfl tyX2 tyX2_ok nmX2 hi 1 rfl wq242 rfl rfl rfl (by decide +kernel) rfl rfl (q0 := 6) rfl rfl rfl dX2_init_19 ?_
  refine g_aload_n F dX2_init_22 0 rfl ?_
  refine g_iconst (v := (4 : Int32)) F dX2_init_23 (by decide) ?_
  refine g_newaH F (by decide) rfl (by decide) rfl rfl dX2_init_24 (fun q2 => ?_)
  refine g_putF (ty := .array .int) (ws' := ((q2, .inl ((zg z).2 0, 4, .inl (fun _ => 0))) :: (q1, .inl ((zg z).2 0, 4, .inl (fun _ => 0))) :: (q, .inl ((zg z).2 3, 4, .inr (.inr (.inr (.inr (fun i => if i < 4 then some (q + 1 + i) else none)))))) :: (q + 1 + 0, .inl ((zg z).2 0, 40, .inl (fun _ => 0))) :: (q + 1 + 1, .inl ((zg z).2 0, 40, .inl (fun _ => 0))) :: (q + 1 + 2, .inl ((zg z).2 0, 40, .inl (fun _ => 0))) :: (q + 1 + 3, .inl ((zg z).2 0, 40, .inl (fun _ => 0))) :: (t, .inr (2, [.ref q, .ref q1, .ref q2])) :: E)) F lysX2 (ci := 2) rfl tyX2 tyX2_ok nmX2 hi 2 rfl wq243 rfl rfl rfl (by decide +kernel) rfl rfl (q0 := 7) rfl rfl rfl dX2_init_26 ?_
  refine g_iconst (v := (0 : Int32)) F dX2_init_29 (by decide) ?_
  refine g_istore_n (lv' := [(1, .int 0), (0, .ref t)]) F dX2_init_30 rfl rfl ?_
  refine g_part (X := [(q2, .inl ((zg z).2 0, 4, .inl (fun _ => 0))), (q1, .inl ((zg z).2 0, 4, .inl (fun _ => 0))), (q, .inl ((zg z).2 3, 4, .inr (.inr (.inr (.inr (fun i => if i < 4 then some (q + 1 + i) else none)))))), (q + 1 + 0, .inl ((zg z).2 0, 40, .inl (fun _ => 0))), (q + 1 + 1, .inl ((zg z).2 0, 40, .inl (fun _ => 0))), (q + 1 + 2, .inl ((zg z).2 0, 40, .inl (fun _ => 0))), (q + 1 + 3, .inl ((zg z).2 0, 40, .inl (fun _ => 0))), (t, .inr (2, [.ref q, .ref q1, .ref q2]))]) (pl := E) [(q1, .inl ((zg z).2 0, 4, .inl (fun _ => 0))), (q2, .inl ((zg z).2 0, 4, .inl (fun _ => 0))), (q, .inl ((zg z).2 3, 4, .inr (.inr (.inr (.inr (fun i => if i < 4 then some (q + 1 + i) else none)))))), (q + 1 + 0, .inl ((zg z).2 0, 40, .inl (fun _ => 0))), (q + 1 + 1, .inl ((zg z).2 0, 40, .inl (fun _ => 0))), (q + 1 + 2, .inl ((zg z).2 0, 40, .inl (fun _ => 0))), (q + 1 + 3, .inl ((zg z).2 0, 40, .inl (fun _ => 0))), (t, .inr (2, [.ref q, .ref q1, .ref q2]))] [1, 0, 2, 3, 4, 5, 6, 7] rfl rfl ?_
  have e0 : (fun _ => 0 : Nat → Int32) = kUp 0 (-1) := funext fun j => (if_neg (t := (-1 : Int32)) (e := 0) (Nat.not_lt_zero j)).symm
  rw [e0]
  refine sh_loop F (ws0 := [(q2, .inl ((zg z).2 0, 4, .inl (kUp 0 (-1)))), (q, .inl ((zg z).2 3, 4, .inr (.inr (.inr (.inr (fun i => if i < 4 then some (q + 1 + i) else none)))))), (q + 1 + 0, .inl ((zg z).2 0, 40, .inl (kUp 0 (-1)))), (q + 1 + 1, .inl ((zg z).2 0, 40, .inl (kUp 0 (-1)))), (q + 1 + 2, .inl ((zg z).2 0, 40, .inl (kUp 0 (-1)))), (q + 1 + 3, .inl ((zg z).2 0, 40, .inl (kUp 0 (-1)))), (t, .inr (2, [.ref q, .ref q1, .ref q2]))] ++ E) (p := 6) rfl ?_ 4 0 rfl
  rw [← e0]
  refine g_part (X := (q1, .inl ((zg z).2 0, 4, .inl (kUp 4 (-1)))) :: [(q2, .inl ((zg z).2 0, 4, .inl (fun _ => 0))), (q, .inl ((zg z).2 3, 4, .inr (.inr (.inr (.inr (fun i => if i < 4 then some (q + 1 + i) else none)))))), (q + 1 + 0, .inl ((zg z).2 0, 40, .inl (fun _ => 0))), (q + 1 + 1, .inl ((zg z).2 0, 40, .inl (fun _ => 0))), (q + 1 + 2, .inl ((zg z).2 0, 40, .inl (fun _ => 0))), (q + 1 + 3, .inl ((zg z).2 0, 40, .inl (fun _ => 0))), (t, .inr (2, [.ref q, .ref q1, .ref q2]))]) (pl := E) (shL (zg z) t q q1 q2) [7, 2, 3, 4, 5, 6, 0, 1] rfl rfl ?_
  exact g_vret F R rfl rfl dX2_init_49 ⟨rfl, q, q1, q2, rfl⟩
