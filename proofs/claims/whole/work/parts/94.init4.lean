/-! the class's constructor -/
theorem wq127 : Cond.methodLink "DrainedForAThird" 1 Lib.objectInit ∈ kWD := kWD_of 127 (by decide +kernel) (by decide +kernel)
theorem wq130 : Cond.classLink "DrainedForAThird" 7 "DrainedForAThird$Fen" ∈ kWD := kWD_of 130 (by decide +kernel) (by decide +kernel)
theorem wq131 : Cond.instantiable "DrainedForAThird$Fen" 13 ∈ kWD := kWD_of 131 (by decide +kernel) (by decide +kernel)
theorem wq132 : Cond.methodLink "DrainedForAThird" 9 ⟨"DrainedForAThird$Fen", "<init>", "()V"⟩ ∈ kWD := kWD_of 132 (by decide +kernel) (by decide +kernel)
theorem wq133 : Cond.instanceMethod ⟨"DrainedForAThird$Fen", "<init>", "()V"⟩ ∈ kWD := kWD_of 133 (by decide +kernel) (by decide +kernel)
theorem wq134 : Cond.code ⟨"DrainedForAThird$Fen", "<init>", "()V"⟩ prog_2_method_1_code 2 none ∈ kWD := kWD_of 134 (by decide +kernel) (by decide +kernel)
theorem wq182 : Cond.classLink "DrainedForAThird" 22 "DrainedForAThird$Text" ∈ kWD := kWD_of 182 (by decide +kernel) (by decide +kernel)
theorem wq185 : Cond.methodLink "DrainedForAThird" 28 ⟨"DrainedForAThird$Text", "<init>", "([I[I[I)V"⟩ ∈ kWD := kWD_of 185 (by decide +kernel) (by decide +kernel)
theorem wq199 : Cond.classLink "DrainedForAThird" 35 "DrainedForAThird$Reader" ∈ kWD := kWD_of 199 (by decide +kernel) (by decide +kernel)
theorem wq200 : Cond.instantiable "DrainedForAThird$Reader" 9 ∈ kWD := kWD_of 200 (by decide +kernel) (by decide +kernel)
theorem wq202 : Cond.instanceMethod ⟨"DrainedForAThird$Reader", "<init>", "()V"⟩ ∈ kWD := kWD_of 202 (by decide +kernel) (by decide +kernel)
theorem wq203 : Cond.code ⟨"DrainedForAThird$Reader", "<init>", "()V"⟩ prog_3_method_1_code 1 none ∈ kWD := kWD_of 203 (by decide +kernel) (by decide +kernel)
theorem wq233 : Cond.classLink "DrainedForAThird" 42 "DrainedForAThird$Sheets" ∈ kWD := kWD_of 233 (by decide +kernel) (by decide +kernel)
theorem wq234 : Cond.instantiable "DrainedForAThird$Sheets" 3 ∈ kWD := kWD_of 234 (by decide +kernel) (by decide +kernel)
theorem wq235 : Cond.methodLink "DrainedForAThird" 44 ⟨"DrainedForAThird$Sheets", "<init>", "()V"⟩ ∈ kWD := kWD_of 235 (by decide +kernel) (by decide +kernel)
theorem wq236 : Cond.instanceMethod ⟨"DrainedForAThird$Sheets", "<init>", "()V"⟩ ∈ kWD := kWD_of 236 (by decide +kernel) (by decide +kernel)
theorem wq237 : Cond.code ⟨"DrainedForAThird$Sheets", "<init>", "()V"⟩ prog_4_method_1_code 2 none ∈ kWD := kWD_of 237 (by decide +kernel) (by decide +kernel)
def kRw (v : Int32) : Nat → Int32 := upd (fun _ => 0) 0 v
/-- the numbers of the class at the start -/
def xS0 : kS := (fun p => match p with
  | 0 => fun i => if i = 5 then 1 else 0
  | 3 => fnR
  | 4 => kUp 12 40
  | 5 => kUp 12 20
  | 6 => kUp 12 5
  | 12 => fnR
  | 13 => kUp 12 40
  | 14 => kUp 12 20
  | 15 => kUp 12 5
  | 21 => fnR
  | 22 => kUp 12 40
  | 23 => kUp 12 20
  | 24 => kUp 12 5
  | 39 => kUp 4 (-1)
  | _ => fun _ => 0, 0)
/-- the first text: rains 6; shrinks 2; calls 3 -/
def kT0 (t r0 r1 r2 : Nat) : kTxt := (t, (r0, 1, kRw 6), (r1, 1, kRw 2), (r2, 1, kRw 3))
def kT0W (g : kG) (t r0 r1 r2 : Nat) : va_W := [(t, .inr (3, [.ref r0, .ref r1, .ref r2])), (r0, .inl (g.2 0, 1, .inl (kRw 6))), (r1, .inl (g.2 0, 1, .inl (kRw 2))), (r2, .inl (g.2 0, 1, .inl (kRw 3)))]
theorem kT0_in {g : kG} {t r0 r1 r2 : Nat} {E : va_W} : xIn g (kT0W g t r0 r1 r2 ++ E) (kT0 t r0 r1 r2) := ⟨⟨0, rfl⟩, ⟨1, rfl⟩, ⟨2, rfl⟩, ⟨3, rfl⟩⟩
def xPs (g : kG) (t0 : Nat) (E : va_W) : Option Value → va_W → Prop := fun r ws => r = none ∧ ∃ (a : Nat → Nat) (t r0 r1 r2 : Nat), a 0 = t0 ∧ ws = xW g a [kT0 t r0 r1 r2] (kT0W g t r0 r1 r2 ++ E) xS0
theorem kRows_eq {q : Nat} {a : Nat → Nat} (h0 : a 35 = q + 1 + 0) (h1 : a 36 = q + 1 + 1) (h2 : a 37 = q + 1 + 2) (h3 : a 38 = q + 1 + 3) : (fun i => if i < 4 then some (q + 1 + i) else none) = xRows a := by
  funext i
  unfold xRows
  by_cases h : i < 4
  · rw [if_pos h, if_pos h]
    obtain rfl | rfl | rfl | rfl : i = 0 ∨ i = 1 ∨ i = 2 ∨ i = 3 := by omega
    · rw [h0]
    · rw [h1]
    · rw [h2]
    · rw [h3]
  · rw [if_neg h, if_neg h]
theorem kTx1 {T : kTxt} : va_up (fun _ => none) 0 (some T.1) = xTx [T] := (congrArg (fun f => va_up f 0 (some T.1)) (funext fun i => (by simp [xTx]) : (fun _ => none) = xTx [])).trans (xTx_app (tx := []) rfl)
/-- the class, its array of texts and its rows as they are given -/
def xWf (g : kG) (a : Nat → Nat) (fT fR : Nat → Option Nat) (E : va_W) (σ : kS) : va_W := (a 0, .inr (4, xFs a σ)) :: (a 1, .inl (g.2 0, 30, .inl (σ.1 1))) :: (a 2, .inl (g.2 2, 6, .inr (.inr (.inr (.inr fT))))) :: (a 3, .inr (0, xFen a 3 σ)) :: (a 4, .inl (g.2 0, 12, .inl (σ.1 4))) :: (a 5, .inl (g.2 0, 12, .inl (σ.1 5))) :: (a 6, .inl (g.2 0, 12, .inl (σ.1 6))) :: (a 7, .inl (g.2 0, 6, .inl (σ.1 7))) :: (a 8, .inl (g.2 0, 6, .inl (σ.1 8))) :: (a 9, .inl (g.2 0, 6, .inl (σ.1 9))) :: (a 10, .inl (g.2 0, 6, .inl (σ.1 10))) :: (a 11, .inl (g.2 0, 31, .inl (σ.1 11))) :: (a 12, .inr (0, xFen a 12 σ)) :: (a 13, .inl (g.2 0, 12, .inl (σ.1 13))) :: (a 14, .inl (g.2 0, 12, .inl (σ.1 14))) :: (a 15, .inl (g.2 0, 12, .inl (σ.1 15))) :: (a 16, .inl (g.2 0, 6, .inl (σ.1 16))) :: (a 17, .inl (g.2 0, 6, .inl (σ.1 17))) :: (a 18, .inl (g.2 0, 6, .inl (σ.1 18))) :: (a 19, .inl (g.2 0, 6, .inl (σ.1 19))) :: (a 20, .inl (g.2 0, 31, .inl (σ.1 20))) :: (a 21, .inr (0, xFen a 21 σ)) :: (a 22, .inl (g.2 0, 12, .inl (σ.1 22))) :: (a 23, .inl (g.2 0, 12, .inl (σ.1 23))) :: (a 24, .inl (g.2 0, 12, .inl (σ.1 24))) :: (a 25, .inl (g.2 0, 6, .inl (σ.1 25))) :: (a 26, .inl (g.2 0, 6, .inl (σ.1 26))) :: (a 27, .inl (g.2 0, 6, .inl (σ.1 27))) :: (a 28, .inl (g.2 0, 6, .inl (σ.1 28))) :: (a 29, .inl (g.2 0, 31, .inl (σ.1 29))) :: (a 30, .inr (1, xRd a σ)) :: (a 31, .inl (g.2 0, 160, .inl (σ.1 31))) :: (a 32, .inl (g.2 0, 160, .inl (σ.1 32))) :: (a 33, .inr (2, xSh a)) :: (a 34, .inl (g.2 3, 4, .inr (.inr (.inr (.inr fR))))) :: (a 35, .inl (g.2 0, 40, .inl (σ.1 35))) :: (a 36, .inl (g.2 0, 40, .inl (σ.1 36))) :: (a 37, .inl (g.2 0, 40, .inl (σ.1 37))) :: (a 38, .inl (g.2 0, 40, .inl (σ.1 38))) :: (a 39, .inl (g.2 0, 4, .inl (σ.1 39))) :: (a 40, .inl (g.2 0, 4, .inl (σ.1 40))) :: E
set_option maxRecDepth 20000 in
theorem ctX4_init (l : Launch) (g : kG) (A : Nat → Prop) (E : va_W) {o : Nat} : kCt l yX4_init cX4_init 1 none 2 110 44 858 g A [.ref o] ((o, .inr (4, [.null, .null, .null, .int 0, .null, .int 0, .null, .null, .null])) :: E) (xPs g o E) := by
  refine kCt.ofN (lv0 := [(0, .ref o)]) (by decide +kernel) (Nat.le_of_ble_eq_true rfl) rfl (fun z hl hg hA hi F R => ?_)
  subst hl hg hA
  have F : kF z cX4_init RX4 1 { frames := 2, cells := 44, slots := 858, locals := 110 } := F
  have hi : (zM z).name = "<init>" := hi
  refine g_aload_n F dX4_init_0 0 rfl ?_
  refine g_init0 F wq127 wq128 wq129 dX4_init_1 rfl ?_
  refine g_aload_n F dX4_init_4 0 rfl ?_
  refine g_newH F (ci := 0) (fs := [.null, .null, .null, .null, .null, .null, .null, .null, .int 0, .int 0, .int 0, .int 0, .int 0]) wq130 wq131 wq110 lysX0 tyX0 tyX0_ok rfl (by decide +kernel) rfl rfl dX4_init_5 (fun f1 => ?_)
  refine g_dup F dX4_init_8 rfl ?_
  refine g_callI F (av := []) (ctX0_init _ _ _ ((o, .inr (4, [.null, .null, .null, .int 0, .null, .int 0, .null, .null, .null])) :: E)) rfl wq132 wq133 wq110 wq134 (by decide +kernel) dX4_init_9 rfl (fun r ws' hq => ?_)
  obtain ⟨rfl, a1, ha1, rfl⟩ := hq
  subst ha1
  show kV z (fnL (zg z) a1 (fnS 12) ++ ((o, .inr (4, [.null, .null, .null, .int 0, .null, .int 0, .null, .null, .null])) :: E)) _ _ _ _ _
  refine g_putF (ty := .object "DrainedForAThird$Fen") (ws' := (fnL (zg z) a1 (fnS 12) ++ ((o, .inr (4, [.ref (a1 0), .null, .null, .int 0, .null, .int 0, .null, .null, .null])) :: E))) F lysX4 (ci := 4) rfl tyX4 tyX4_ok nmX4 hi 0 rfl wq251 rfl rfl rfl (by decide +kernel) rfl rfl (q0 := 9) rfl rfl rfl dX4_init_12 ?_
  refine g_aload_n F dX4_init_15 0 rfl ?_
  refine g_newH F (ci := 0) (fs := [.null, .null, .null, .null, .null, .null, .null, .null, .int 0, .int 0, .int 0, .int 0, .int 0]) wq130 wq131 wq110 lysX0 tyX0 tyX0_ok rfl (by decide +kernel) rfl rfl dX4_init_16 (fun f2 => ?_)
  refine g_dup F dX4_init_19 rfl ?_
  refine g_callI F (av := []) (ctX0_init _ _ _ (fnL (zg z) a1 (fnS 12) ++ ((o, .inr (4, [.ref (a1 0), .null, .null, .int 0, .null, .int 0, .null, .null, .null])) :: E))) rfl wq132 wq133 wq110 wq134 (by decide +kernel) dX4_init_20 rfl (fun r ws' hq => ?_)
  obtain ⟨rfl, a2, ha2, rfl⟩ := hq
  subst ha2
  show kV z (fnL (zg z) a2 (fnS 12) ++ (fnL (zg z) a1 (fnS 12) ++ ((o, .inr (4, [.ref (a1 0), .null, .null, .int 0, .null, .int 0, .null, .null, .null])) :: E))) _ _ _ _ _
  refine g_putF (ty := .object "DrainedForAThird$Fen") (ws' := (fnL (zg z) a2 (fnS 12) ++ (fnL (zg z) a1 (fnS 12) ++ ((o, .inr (4, [.ref (a1 0), .ref (a2 0), .null, .int 0, .null, .int 0, .null, .null, .null])) :: E)))) F lysX4 (ci := 4) rfl tyX4 tyX4_ok nmX4 hi 1 rfl wq252 rfl rfl rfl (by decide +kernel) rfl rfl (q0 := 18) rfl rfl rfl dX4_init_23 ?_
  refine g_aload_n F dX4_init_26 0 rfl ?_
  refine g_newH F (ci := 0) (fs := [.null, .null, .null, .null, .null, .null, .null, .null, .int 0, .int 0, .int 0, .int 0, .int 0]) wq130 wq131 wq110 lysX0 tyX0 tyX0_ok rfl (by decide +kernel) rfl rfl dX4_init_27 (fun f3 => ?_)
  refine g_dup F dX4_init_30 rfl ?_
  refine g_callI F (av := []) (ctX0_init _ _ _ (fnL (zg z) a2 (fnS 12) ++ (fnL (zg z) a1 (fnS 12) ++ ((o, .inr (4, [.ref (a1 0), .ref (a2 0), .null, .int 0, .null, .int 0, .null, .null, .null])) :: E)))) rfl wq132 wq133 wq110 wq134 (by decide +kernel) dX4_init_31 rfl (fun r ws' hq => ?_)
  obtain ⟨rfl, a3, ha3, rfl⟩ := hq
  subst ha3
  show kV z (fnL (zg z) a3 (fnS 12) ++ (fnL (zg z) a2 (fnS 12) ++ (fnL (zg z) a1 (fnS 12) ++ ((o, .inr (4, [.ref (a1 0), .ref (a2 0), .null, .int 0, .null, .int 0, .null, .null, .null])) :: E)))) _ _ _ _ _
  refine g_putF (ty := .object "DrainedForAThird$Fen") (ws' := (fnL (zg z) a3 (fnS 12) ++ (fnL (zg z) a2 (fnS 12) ++ (fnL (zg z) a1 (fnS 12) ++ ((o, .inr (4, [.ref (a1 0), .ref (a2 0), .ref (a3 0), .int 0, .null, .int 0, .null, .null, .null])) :: E))))) F lysX4 (ci := 4) rfl tyX4 tyX4_ok nmX4 hi 2 rfl wq253 rfl rfl rfl (by decide +kernel) rfl rfl (q0 := 27) rfl rfl rfl dX4_init_34 ?_
  refine g_aload_n F dX4_init_37 0 rfl ?_
  refine g_bipush (v := (6 : Int32)) F dX4_init_38 (by decide) ?_
  refine g_newqH F (n := 6) (N := 6) wq182 (by decide) rfl (by decide) rfl rfl dX4_init_40 (fun x => ?_)
  refine g_putF (ty := .array (.object "DrainedForAThird$Text")) (ws' := ([(x, .inl ((zg z).2 2, 6, .inr (.inr (.inr (.inr (fun _ => none))))))] ++ (fnL (zg z) a3 (fnS 12) ++ (fnL (zg z) a2 (fnS 12) ++ (fnL (zg z) a1 (fnS 12) ++ ((o, .inr (4, [.ref (a1 0), .ref (a2 0), .ref (a3 0), .int 0, .ref x, .int 0, .null, .null, .null])) :: E)))))) F lysX4 (ci := 4) rfl tyX4 tyX4_ok nmX4 hi 4 rfl wq255 rfl rfl rfl (by decide +kernel) rfl rfl (q0 := 28) rfl rfl rfl dX4_init_43 ?_
  refine g_aload_n F dX4_init_46 0 rfl ?_
  refine g_getf F lysX4 (ci := 4) rfl 4 rfl wq255 rfl (q0 := 28) rfl rfl dX4_init_47 ?_
  refine g_iconst (v := (0 : Int32)) F dX4_init_50 (by decide) ?_
  refine g_newH F (ci := 3) (fs := [.null, .null, .null]) wq182 wq184 wq111 lysX3 tyX3 tyX3_ok rfl (by decide +kernel) rfl rfl dX4_init_51 (fun t => ?_)
  refine g_dup F dX4_init_54 rfl ?_
  refine g_iconst (v := (1 : Int32)) F dX4_init_55 (by decide) ?_
  refine g_newaH F (N := 1) (by decide) rfl (by decide) rfl rfl dX4_init_56 (fun r0 => ?_)
  refine g_dup F dX4_init_58 rfl ?_
  refine g_iconst (v := (0 : Int32)) F dX4_init_59 (by decide) ?_
  refine g_bipush (v := (6 : Int32)) F dX4_init_60 (by decide) ?_
  refine g_iastH F (i_nin (i := 0) (by omega) (by omega)) dX4_init_62 ?_
  refine g_iconst (v := (1 : Int32)) F dX4_init_63 (by decide) ?_
  refine g_newaH F (N := 1) (by decide) rfl (by decide) rfl rfl dX4_init_64 (fun r1 => ?_)
  refine g_dup F dX4_init_66 rfl ?_
  refine g_iconst (v := (0 : Int32)) F dX4_init_67 (by decide) ?_
  refine g_iconst (v := (2 : Int32)) F dX4_init_68 (by decide) ?_
  refine g_iastH F (i_nin (i := 0) (by omega) (by omega)) dX4_init_69 ?_
  refine g_iconst (v := (1 : Int32)) F dX4_init_70 (by decide) ?_
  refine g_newaH F (N := 1) (by decide) rfl (by decide) rfl rfl dX4_init_71 (fun r2 => ?_)
  refine g_dup F dX4_init_73 rfl ?_
  refine g_iconst (v := (0 : Int32)) F dX4_init_74 (by decide) ?_
  refine g_iconst (v := (3 : Int32)) F dX4_init_75 (by decide) ?_
  refine g_iastH F (i_nin (i := 0) (by omega) (by omega)) dX4_init_76 ?_
  refine g_swap (x := [(r2, .inl ((zg z).2 0, 1, .inl (kRw 3))), (r1, .inl ((zg z).2 0, 1, .inl (kRw 2))), (r0, .inl ((zg z).2 0, 1, .inl (kRw 6)))]) (y := [(t, .inr (3, [.null, .null, .null]))]) (w := ([(x, .inl ((zg z).2 2, 6, .inr (.inr (.inr (.inr (fun _ => none))))))] ++ (fnL (zg z) a3 (fnS 12) ++ (fnL (zg z) a2 (fnS 12) ++ (fnL (zg z) a1 (fnS 12) ++ ((o, .inr (4, [.ref (a1 0), .ref (a2 0), .ref (a3 0), .int 0, .ref x, .int 0, .null, .null, .null])) :: E)))))) ?_
  refine g_callI F (av := [.ref r0, .ref r1, .ref r2]) (ctX3_init _ _ _ _) rfl wq185 wq186 wq111 wq187 (show kPlain yX3_init 3 = true by decide +kernel) dX4_init_77 rfl (fun r ws' hq => ?_)
  obtain ⟨rfl, rfl⟩ := hq
  refine g_swap (x := [(r2, .inl ((zg z).2 0, 1, .inl (kRw 3))), (r1, .inl ((zg z).2 0, 1, .inl (kRw 2))), (r0, .inl ((zg z).2 0, 1, .inl (kRw 6)))]) (y := ([(x, .inl ((zg z).2 2, 6, .inr (.inr (.inr (.inr (fun _ => none))))))] ++ (fnL (zg z) a3 (fnS 12) ++ (fnL (zg z) a2 (fnS 12) ++ (fnL (zg z) a1 (fnS 12) ++ ((o, .inr (4, [.ref (a1 0), .ref (a2 0), .ref (a3 0), .int 0, .ref x, .int 0, .null, .null, .null])) :: E)))))) (w := [(t, .inr (3, [.ref r0, .ref r1, .ref r2]))]) ?_
  refine g_astT (ws' := ([(r2, .inl ((zg z).2 0, 1, .inl (kRw 3))), (r1, .inl ((zg z).2 0, 1, .inl (kRw 2))), (r0, .inl ((zg z).2 0, 1, .inl (kRw 6)))] ++ ([(t, .inr (3, [.ref r0, .ref r1, .ref r2]))] ++ ([(x, .inl ((zg z).2 2, 6, .inr (.inr (.inr (.inr (va_up (fun _ => none) 0 (some t)))))))] ++ (fnL (zg z) a3 (fnS 12) ++ (fnL (zg z) a2 (fnS 12) ++ (fnL (zg z) a1 (fnS 12) ++ ((o, .inr (4, [.ref (a1 0), .ref (a2 0), .ref (a3 0), .int 0, .ref x, .int 0, .null, .null, .null])) :: E)))))))) F 4 3 rfl rfl (i_nin (i := 0) (by omega) (by omega)) rfl dX4_init_80 ?_
  refine g_aload_n F dX4_init_81 0 rfl ?_
  refine g_iconst (v := (1 : Int32)) F dX4_init_82 (by decide) ?_
  refine g_putf (ty := .int) (ws' := ([(r2, .inl ((zg z).2 0, 1, .inl (kRw 3))), (r1, .inl ((zg z).2 0, 1, .inl (kRw 2))), (r0, .inl ((zg z).2 0, 1, .inl (kRw 6)))] ++ ([(t, .inr (3, [.ref r0, .ref r1, .ref r2]))] ++ ([(x, .inl ((zg z).2 2, 6, .inr (.inr (.inr (.inr (va_up (fun _ => none) 0 (some t)))))))] ++ (fnL (zg z) a3 (fnS 12) ++ (fnL (zg z) a2 (fnS 12) ++ (fnL (zg z) a1 (fnS 12) ++ ((o, .inr (4, [.ref (a1 0), .ref (a2 0), .ref (a3 0), .int 0, .ref x, .int 1, .null, .null, .null])) :: E)))))))) F lysX4 (ci := 4) rfl tyX4 tyX4_ok nmX4 5 rfl wq256 rfl rfl (by decide +kernel) rfl rfl (q0 := 32) rfl rfl rfl dX4_init_83 ?_
  refine g_aload_n F dX4_init_86 0 rfl ?_
  refine g_newH F (ci := 1) (fs := [.null, .int 0, .int 0, .int 0, .int 0, .int 0, .int 0, .null, .int 0]) wq199 wq200 wq112 lysX1 tyX1 tyX1_ok rfl (by decide +kernel) rfl rfl dX4_init_87 (fun rd => ?_)
  refine g_dup F dX4_init_90 rfl ?_
  refine g_callIN F (av := []) (ctX1_init _ _ _ ([(r2, .inl ((zg z).2 0, 1, .inl (kRw 3))), (r1, .inl ((zg z).2 0, 1, .inl (kRw 2))), (r0, .inl ((zg z).2 0, 1, .inl (kRw 6)))] ++ ([(t, .inr (3, [.ref r0, .ref r1, .ref r2]))] ++ ([(x, .inl ((zg z).2 2, 6, .inr (.inr (.inr (.inr (va_up (fun _ => none) 0 (some t)))))))] ++ (fnL (zg z) a3 (fnS 12) ++ (fnL (zg z) a2 (fnS 12) ++ (fnL (zg z) a1 (fnS 12) ++ ((o, .inr (4, [.ref (a1 0), .ref (a2 0), .ref (a3 0), .int 0, .ref x, .int 1, .null, .null, .null])) :: E)))))))) rfl F.2.2.2.2.2.2.2.1.1.1.1 wq202 wq112 wq203 (show kPlain yX1_init 0 = true by decide +kernel) dX4_init_91 rfl (fun r ws' hq => ?_)
  obtain ⟨rfl, d1, d2, rfl⟩ := hq
  show kV z (rdL (zg z) rd d1 d2 ++ ([(r2, .inl ((zg z).2 0, 1, .inl (kRw 3))), (r1, .inl ((zg z).2 0, 1, .inl (kRw 2))), (r0, .inl ((zg z).2 0, 1, .inl (kRw 6)))] ++ ([(t, .inr (3, [.ref r0, .ref r1, .ref r2]))] ++ ([(x, .inl ((zg z).2 2, 6, .inr (.inr (.inr (.inr (va_up (fun _ => none) 0 (some t)))))))] ++ (fnL (zg z) a3 (fnS 12) ++ (fnL (zg z) a2 (fnS 12) ++ (fnL (zg z) a1 (fnS 12) ++ ((o, .inr (4, [.ref (a1 0), .ref (a2 0), .ref (a3 0), .int 0, .ref x, .int 1, .null, .null, .null])) :: E)))))))) _ _ _ _ _
  refine g_putF (ty := .object "DrainedForAThird$Reader") (ws' := (rdL (zg z) rd d1 d2 ++ ([(r2, .inl ((zg z).2 0, 1, .inl (kRw 3))), (r1, .inl ((zg z).2 0, 1, .inl (kRw 2))), (r0, .inl ((zg z).2 0, 1, .inl (kRw 6)))] ++ ([(t, .inr (3, [.ref r0, .ref r1, .ref r2]))] ++ ([(x, .inl ((zg z).2 2, 6, .inr (.inr (.inr (.inr (va_up (fun _ => none) 0 (some t)))))))] ++ (fnL (zg z) a3 (fnS 12) ++ (fnL (zg z) a2 (fnS 12) ++ (fnL (zg z) a1 (fnS 12) ++ ((o, .inr (4, [.ref (a1 0), .ref (a2 0), .ref (a3 0), .int 0, .ref x, .int 1, .ref rd, .null, .null])) :: E))))))))) F lysX4 (ci := 4) rfl tyX4 tyX4_ok nmX4 hi 6 rfl wq257 rfl rfl rfl (by decide +kernel) rfl rfl (q0 := 35) rfl rfl rfl dX4_init_94 ?_
  refine g_aload_n F dX4_init_97 0 rfl ?_
  refine g_newH F (ci := 2) (fs := [.null, .null, .null]) wq233 wq234 wq113 lysX2 tyX2 tyX2_ok rfl (by decide +kernel) rfl rfl dX4_init_98 (fun sh => ?_)
  refine g_dup F dX4_init_101 rfl ?_
  refine g_callI F (av := []) (ctX2_init _ _ _ (rdL (zg z) rd d1 d2 ++ ([(r2, .inl ((zg z).2 0, 1, .inl (kRw 3))), (r1, .inl ((zg z).2 0, 1, .inl (kRw 2))), (r0, .inl ((zg z).2 0, 1, .inl (kRw 6)))] ++ ([(t, .inr (3, [.ref r0, .ref r1, .ref r2]))] ++ ([(x, .inl ((zg z).2 2, 6, .inr (.inr (.inr (.inr (va_up (fun _ => none) 0 (some t)))))))] ++ (fnL (zg z) a3 (fnS 12) ++ (fnL (zg z) a2 (fnS 12) ++ (fnL (zg z) a1 (fnS 12) ++ ((o, .inr (4, [.ref (a1 0), .ref (a2 0), .ref (a3 0), .int 0, .ref x, .int 1, .ref rd, .null, .null])) :: E))))))))) rfl wq235 wq236 wq113 wq237 (show kPlain yX2_init 0 = true by decide +kernel) dX4_init_102 rfl (fun r ws' hq => ?_)
  obtain ⟨rfl, q, s1, s2, rfl⟩ := hq
  show kV z (shL (zg z) sh q s1 s2 ++ (rdL (zg z) rd d1 d2 ++ ([(r2, .inl ((zg z).2 0, 1, .inl (kRw 3))), (r1, .inl ((zg z).2 0, 1, .inl (kRw 2))), (r0, .inl ((zg z).2 0, 1, .inl (kRw 6)))] ++ ([(t, .inr (3, [.ref r0, .ref r1, .ref r2]))] ++ ([(x, .inl ((zg z).2 2, 6, .inr (.inr (.inr (.inr (va_up (fun _ => none) 0 (some t)))))))] ++ (fnL (zg z) a3 (fnS 12) ++ (fnL (zg z) a2 (fnS 12) ++ (fnL (zg z) a1 (fnS 12) ++ ((o, .inr (4, [.ref (a1 0), .ref (a2 0), .ref (a3 0), .int 0, .ref x, .int 1, .ref rd, .null, .null])) :: E))))))))) _ _ _ _ _
  refine g_putF (ty := .object "DrainedForAThird$Sheets") (ws' := (shL (zg z) sh q s1 s2 ++ (rdL (zg z) rd d1 d2 ++ ([(r2, .inl ((zg z).2 0, 1, .inl (kRw 3))), (r1, .inl ((zg z).2 0, 1, .inl (kRw 2))), (r0, .inl ((zg z).2 0, 1, .inl (kRw 6)))] ++ ([(t, .inr (3, [.ref r0, .ref r1, .ref r2]))] ++ ([(x, .inl ((zg z).2 2, 6, .inr (.inr (.inr (.inr (va_up (fun _ => none) 0 (some t)))))))] ++ (fnL (zg z) a3 (fnS 12) ++ (fnL (zg z) a2 (fnS 12) ++ (fnL (zg z) a1 (fnS 12) ++ ((o, .inr (4, [.ref (a1 0), .ref (a2 0), .ref (a3 0), .int 0, .ref x, .int 1, .ref rd, .ref sh, .null])) :: E)))))))))) F lysX4 (ci := 4) rfl tyX4 tyX4_ok nmX4 hi 7 rfl wq258 rfl rfl rfl (by decide +kernel) rfl rfl (q0 := 43) rfl rfl rfl dX4_init_105 ?_
  refine g_aload_n F dX4_init_108 0 rfl ?_
  refine g_bipush (v := (30 : Int32)) F dX4_init_109 (by decide) ?_
  refine g_newaH F (N := 30) (by decide) rfl (by decide) rfl rfl dX4_init_111 (fun dr => ?_)
  refine g_putF (ty := .array .int) (ws' := ([(dr, .inl ((zg z).2 0, 30, .inl (fun _ => 0)))] ++ (shL (zg z) sh q s1 s2 ++ (rdL (zg z) rd d1 d2 ++ ([(r2, .inl ((zg z).2 0, 1, .inl (kRw 3))), (r1, .inl ((zg z).2 0, 1, .inl (kRw 2))), (r0, .inl ((zg z).2 0, 1, .inl (kRw 6)))] ++ ([(t, .inr (3, [.ref r0, .ref r1, .ref r2]))] ++ ([(x, .inl ((zg z).2 2, 6, .inr (.inr (.inr (.inr (va_up (fun _ => none) 0 (some t)))))))] ++ (fnL (zg z) a3 (fnS 12) ++ (fnL (zg z) a2 (fnS 12) ++ (fnL (zg z) a1 (fnS 12) ++ ((o, .inr (4, [.ref (a1 0), .ref (a2 0), .ref (a3 0), .int 0, .ref x, .int 1, .ref rd, .ref sh, .ref dr])) :: E))))))))))) F lysX4 (ci := 4) rfl tyX4 tyX4_ok nmX4 hi 8 rfl wq259 rfl rfl rfl (by decide +kernel) rfl rfl (q0 := 44) rfl rfl rfl dX4_init_113 ?_
  refine g_part (X := ([(dr, .inl ((zg z).2 0, 30, .inl (fun _ => 0)))]) ++ (shL (zg z) sh q s1 s2) ++ (rdL (zg z) rd d1 d2) ++ ([(r2, .inl ((zg z).2 0, 1, .inl (kRw 3))), (r1, .inl ((zg z).2 0, 1, .inl (kRw 2))), (r0, .inl ((zg z).2 0, 1, .inl (kRw 6)))]) ++ ([(t, .inr (3, [.ref r0, .ref r1, .ref r2]))]) ++ ([(x, .inl ((zg z).2 2, 6, .inr (.inr (.inr (.inr (va_up (fun _ => none) 0 (some t)))))))]) ++ (fnL (zg z) a3 (fnS 12)) ++ (fnL (zg z) a2 (fnS 12)) ++ (fnL (zg z) a1 (fnS 12)) ++ [(o, .inr (4, [.ref (a1 0), .ref (a2 0), .ref (a3 0), .int 0, .ref x, .int 1, .ref rd, .ref sh, .ref dr]))]) (pl := E) (xWf (zg z) (fun i => [o, dr, x, a1 0, a1 1, a1 2, a1 3, a1 4, a1 5, a1 6, a1 7, a1 8, a2 0, a2 1, a2 2, a2 3, a2 4, a2 5, a2 6, a2 7, a2 8, a3 0, a3 1, a3 2, a3 3, a3 4, a3 5, a3 6, a3 7, a3 8, rd, d1, d2, sh, q, q + 1 + 0, q + 1 + 1, q + 1 + 2, q + 1 + 3, s1, s2].getD i 0) (va_up (fun _ => none) 0 (some t)) (fun i => if i < 4 then some (q + 1 + i) else none) (kT0W (zg z) t r0 r1 r2) xS0) [44, 0, 16, 35, 36, 37, 38, 39, 40, 41, 42, 43, 26, 27, 28, 29, 30, 31, 32, 33, 34, 17, 18, 19, 20, 21, 22, 23, 24, 25, 9, 10, 11, 1, 2, 3, 4, 5, 6, 7, 8, 15, 14, 13, 12] rfl rfl ?_
  rw [kRows_eq (q := q) (a := fun i => [o, dr, x, a1 0, a1 1, a1 2, a1 3, a1 4, a1 5, a1 6, a1 7, a1 8, a2 0, a2 1, a2 2, a2 3, a2 4, a2 5, a2 6, a2 7, a2 8, a3 0, a3 1, a3 2, a3 3, a3 4, a3 5, a3 6, a3 7, a3 8, rd, d1, d2, sh, q, q + 1 + 0, q + 1 + 1, q + 1 + 2, q + 1 + 3, s1, s2].getD i 0) rfl rfl rfl rfl]
  have e2 : va_up (fun _ => none) 0 (some t) = xTx [kT0 t r0 r1 r2] := kTx1 (T := kT0 t r0 r1 r2)
  rw [e2]
  exact g_vret F R rfl rfl dX4_init_116 ⟨rfl, fun i => [o, dr, x, a1 0, a1 1, a1 2, a1 3, a1 4, a1 5, a1 6, a1 7, a1 8, a2 0, a2 1, a2 2, a2 3, a2 4, a2 5, a2 6, a2 7, a2 8, a3 0, a3 1, a3 2, a3 3, a3 4, a3 5, a3 6, a3 7, a3 8, rd, d1, d2, sh, q, q + 1 + 0, q + 1 + 1, q + 1 + 2, q + 1 + 3, s1, s2].getD i 0, t, r0, r1, r2, rfl, rfl⟩
