theorem plX5_work : kPlain yX5_work 3 = true := by decide +kernel
theorem rX5_X5_work {z : kZ} {cc : ByteArray} {nL : Nat} {rm : Room} {c n pc : Nat} {lv : List (Nat × Value)} {st : List Value} {a : Nat → Nat} {E : va_W} {σ : kS} {l1 : Int32} {l2 : Int32} {l3 : Int32} {Q : Int32 → kS → Prop} (F : kF z cc RX5 nL rm) (hd : decode cc pc = .ok (.invokevirtual 440, 3)) (hf : kFits rm 2 85 0 0 4 c n st = true) (h : wX5_work l1 l2 l3 σ Q) (k : ∀ (v : Int32) (σ' : kS), Q v σ' → kV z (mW (zg z) a E σ') c n (pc + 3) lv (.int v :: st)) : kV z (mW (zg z) a E σ) c n pc lv (.int l3 :: .int l2 :: .int l1 :: .ref (a 0) :: st) := by
  exact g_callV F (av := [.int l1, .int l2, .int l3]) (ctX5_work _ _ _ a E h) (ci := 5) (q0 := 0) rfl rfl rfl wq1366 wq1191 wq1192 wq114 wq1193 plX5_work hd hf (fun r ws' hq => by
    obtain ⟨v, σ', rfl, rfl, hq⟩ := hq
    exact k v σ' hq)
set_option maxRecDepth 20000 in
theorem sX5_works_75 {z : kZ} {a : Nat → Nat} {E : va_W}  {Q : Int32 → kS → Prop} {l1 : Int32} {l3 : Int32} {l4 : Int32} {l5 : Int32} {l6 : Int32} {σ : kS} (F : kF z cX5_works RX5 8 { frames := 3, cells := 0, slots := 0, locals := 108 }) (R : kR z (some .int) 0 0 (kPi (mW (zg z) a E) Q)) (h : wX5_works_75 Q l1 l3 l4 l5 l6 σ) : kV z (mW (zg z) a E σ) 0 0 75 [(0, .ref (a 0)), (1, .int l1), (3, .int l3), (4, .int l4), (5, .int l5), (6, .int l6)] [] := by
  unfold wX5_works_75 at h
  refine h (fun σ l5 l6 => kV z (mW (zg z) a E σ) 0 0 75 [(0, .ref (a 0)), (1, .int l1), (3, .int l3), (4, .int l4), (5, .int l5), (6, .int l6)] []) (fun σ l5 l6 h => ?_)
  refine g_iload F dX5_works_75 5 rfl ?_
  refine g_iload F dX5_works_77 3 rfl ?_
  refine g_icmp_ge F dX5_works_79 (tgt := 167) (by decide) (fun c10 => ?_) (fun c10 => ?_)
  · replace h := h.1 c10
    refine g_iload F dX5_works_167 4 rfl ?_
    exact g_iret F R rfl rfl dX5_works_169 ⟨_, _, rfl, rfl, h⟩
  replace h := h.2 c10
  refine g_iload_n F dX5_works_82 2 rfl ?_
  refine g_if_lt F dX5_works_83 (tgt := 103) (by decide) (fun c11 => ?_) (fun c11 => ?_)
  · replace h := h.1 c11
    refine g_bipush (v := (-12 : Int32)) F dX5_works_103 (by decide) ?_
    exact g_iret F R rfl rfl dX5_works_105 ⟨_, _, rfl, rfl, h⟩
  replace h := h.2 c11
  refine g_iload_n F dX5_works_86 2 rfl ?_
  refine g_aload_n F dX5_works_87 0 rfl ?_
  refine rgX5_X5_sheetSize F dX5_works_88 ?_
  refine g_iload_n F dX5_works_91 1 rfl ?_
  obtain ⟨hc, h⟩ := h
  refine g_iald (wf := mW (zg z) a E) F mA14 hc dX5_works_92 ?_
  refine g_iconst (v := (3 : Int32)) F dX5_works_93 (by decide) ?_
  refine g_iload F dX5_works_94 5 rfl ?_
  refine g_imul F dX5_works_96 ?_
  refine g_isub F dX5_works_97 ?_
  refine g_iconst (v := (3 : Int32)) F dX5_works_98 (by decide) ?_
  refine g_isub F dX5_works_99 ?_
  refine g_icmp_le F dX5_works_100 (tgt := 106) (by decide) (fun c12 => ?_) (fun c12 => ?_)
  · replace h := h.1 c12
    refine g_bipush (v := (40 : Int32)) F dX5_works_106 (by decide) ?_
    refine g_iload_n F dX5_works_108 1 rfl ?_
    refine g_imul F dX5_works_109 ?_
    refine g_iload_n F dX5_works_110 2 rfl ?_
    refine g_iadd F dX5_works_111 ?_
    refine g_iconst (v := (3 : Int32)) F dX5_works_112 (by decide) ?_
    refine g_iload F dX5_works_113 5 rfl ?_
    refine g_imul F dX5_works_115 ?_
    refine g_iadd F dX5_works_116 ?_
    refine g_topi (fun x13 ex13 => ?_)
    replace h := h x13 ex13
    refine g_istore (lv' := [(7, .int x13), (0, .ref (a 0)), (1, .int l1), (3, .int l3), (4, .int l4), (5, .int l5), (6, .int l6)]) F dX5_works_117 rfl rfl ?_
    refine g_iload F dX5_works_119 5 rfl ?_
    refine g_aload_n F dX5_works_121 1 rfl ?_
    refine g_aload_n F dX5_works_122 1 rfl ?_
    refine rgX5_X5_items F dX5_works_123 ?_
    refine g_iload F dX5_works_126 0 rfl ?_
    obtain ⟨hc, h⟩ := h
    refine g_iald (wf := mW (zg z) a E) F mA15 hc dX5_works_128 ?_
    refine g_aload_n F dX5_works_129 1 rfl ?_
    refine rgX5_X5_items F dX5_works_130 ?_
    refine g_iload F dX5_works_133 0 rfl ?_
    refine g_iconst (v := (1 : Int32)) F dX5_works_135 (by decide) ?_
    refine g_iadd F dX5_works_136 ?_
    obtain ⟨hc, h⟩ := h
    refine g_iald (wf := mW (zg z) a E) F mA15 hc dX5_works_137 ?_
    refine g_aload_n F dX5_works_138 1 rfl ?_
    refine rgX5_X5_items F dX5_works_139 ?_
    refine g_iload F dX5_works_142 0 rfl ?_
    refine g_iconst (v := (2 : Int32)) F dX5_works_144 (by decide) ?_
    refine g_iadd F dX5_works_145 ?_
    obtain ⟨hc, h⟩ := h
    refine g_iald (wf := mW (zg z) a E) F mA15 hc dX5_works_146 ?_
    refine rX5_X5_work F dX5_works_147 rfl h (fun r15 s14 h => ?_)
    refine g_if_lt F dX5_works_150 (tgt := 157) (by decide) (fun c16 => ?_) (fun c16 => ?_)
    · replace h := h.1 c16
      refine g_iconst (v := (0 : Int32)) F dX5_works_157 (by decide) ?_
      refine g_iadd F dX5_works_158 ?_
      refine g_topi (fun x17 ex17 => ?_)
      replace h := h x17 ex17
      refine g_istore (lv' := [(5, .int x17), (7, .int x13), (0, .ref (a 0)), (1, .int l1), (3, .int l3), (4, .int l4), (6, .int l6)]) F dX5_works_159 rfl rfl ?_
      obtain ⟨x18, ex18⟩ : ∃ q : Int32, q = l6 + (1 : Int32) := ⟨_, rfl⟩
      replace h := h x18 ex18
      refine g_iinc (lv' := [(6, .int x18), (5, .int x17), (7, .int x13), (0, .ref (a 0)), (1, .int l1), (3, .int l3), (4, .int l4)]) (d := (1 : Int32)) F dX5_works_161 rfl 6 rfl (by decide) ex18.symm rfl ?_
      refine g_goto F dX5_works_164 (tgt := 75) (by decide) ?_
      exact (g_sub [3, 4, 5, 6, 1, 0] rfl h)
    replace h := h.2 c16
    refine g_iconst (v := (1 : Int32)) F dX5_works_153 (by decide) ?_
    refine g_goto F dX5_works_154 (tgt := 158) (by decide) ?_
    refine g_iadd F dX5_works_158 ?_
    refine g_topi (fun x19 ex19 => ?_)
    replace h := h x19 ex19
    refine g_istore (lv' := [(5, .int x19), (7, .int x13), (0, .ref (a 0)), (1, .int l1), (3, .int l3), (4, .int l4), (6, .int l6)]) F dX5_works_159 rfl rfl ?_
    obtain ⟨x20, ex20⟩ : ∃ q : Int32, q = l6 + (1 : Int32) := ⟨_, rfl⟩
    replace h := h x20 ex20
    refine g_iinc (lv' := [(6, .int x20), (5, .int x19), (7, .int x13), (0, .ref (a 0)), (1, .int l1), (3, .int l3), (4, .int l4)]) (d := (1 : Int32)) F dX5_works_161 rfl 6 rfl (by decide) ex20.symm rfl ?_
    refine g_goto F dX5_works_164 (tgt := 75) (by decide) ?_
    exact (g_sub [3, 4, 5, 6, 1, 0] rfl h)
  replace h := h.2 c12
  refine g_bipush (v := (-12 : Int32)) F dX5_works_103 (by decide) ?_
  exact g_iret F R rfl rfl dX5_works_105 ⟨_, _, rfl, rfl, h⟩
set_option maxRecDepth 20000 in
theorem sX5_works_57 {z : kZ} {a : Nat → Nat} {E : va_W}  {Q : Int32 → kS → Prop} {l1 : Int32} {l3 : Int32} {l4 : Int32} {σ : kS} (F : kF z cX5_works RX5 8 { frames := 3, cells := 0, slots := 0, locals := 108 }) (R : kR z (some .int) 0 0 (kPi (mW (zg z) a E) Q)) (h : wX5_works_57 Q l1 l3 l4 σ) : kV z (mW (zg z) a E σ) 0 0 57 [(0, .ref (a 0)), (1, .int l1), (3, .int l3), (4, .int l4)] [] := by
  unfold wX5_works_57 at h
  refine g_aload_n F dX5_works_57 0 rfl ?_
  refine rgX5_X5_isThere F dX5_works_58 ?_
  refine g_iload_n F dX5_works_61 1 rfl ?_
  obtain ⟨hc, h⟩ := h
  refine g_zald (wf := mW (zg z) a E) F mA12 hc dX5_works_62 ?_
  refine g_if_ne F dX5_works_63 (tgt := 69) (by decide) (fun c9 => ?_) (fun c9 => ?_)
  · replace h := h.1 c9
    refine g_iconst (v := (0 : Int32)) F dX5_works_69 (by decide) ?_
    refine g_istore (lv' := [(5, .int (0 : Int32)), (0, .ref (a 0)), (1, .int l1), (3, .int l3), (4, .int l4)]) F dX5_works_70 rfl rfl ?_
    refine g_iconst (v := (0 : Int32)) F dX5_works_72 (by decide) ?_
    refine g_istore (lv' := [(6, .int (0 : Int32)), (5, .int (0 : Int32)), (0, .ref (a 0)), (1, .int l1), (3, .int l3), (4, .int l4)]) F dX5_works_73 rfl rfl ?_
    exact g_sub [2, 3, 4, 5, 1, 0] rfl (sX5_works_75 F R h)
  replace h := h.2 c9
  refine g_bipush (v := (-11 : Int32)) F dX5_works_66 (by decide) ?_
  exact g_iret F R rfl rfl dX5_works_68 ⟨_, _, rfl, rfl, h⟩
set_option maxRecDepth 20000 in
theorem ctX5_works (l : Launch) (g : kG) (A : Nat → Prop) (a : Nat → Nat) (E : va_W) {l1 : Int32} {l2 : Int32} {l3 : Int32} {l4 : Int32} {σ : kS} {Q : Int32 → kS → Prop} (h : wX5_works l1 l2 l3 l4 σ Q) : kCt l yX5_works cX5_works 8 (some .int) 3 108 0 0 g A [.ref (a 0), .int l1, .int l2, .int l3, .int l4] (mW g a E σ) (kPi (mW g a E) Q) := by
  refine kCt.of (lv0 := [(0, .ref (a 0)), (1, .int l1), (2, .int l2), (3, .int l3), (4, .int l4)]) (by decide +kernel) (Nat.le_of_ble_eq_true rfl) rfl (fun z hl hg hA F R => ?_)
  subst hl hg hA
  have F : kF z cX5_works RX5 8 { frames := 3, cells := 0, slots := 0, locals := 108 } := F
  unfold wX5_works at h
  refine g_iload_n F dX5_works_0 1 rfl ?_
  refine rX5_X5_isSheet F dX5_works_1 rfl h (fun r1 h => ?_)
  refine g_if_eq F dX5_works_4 (tgt := 32) (by decide) (fun c2 => ?_) (fun c2 => ?_)
  · replace h := h.1 c2
    refine g_bipush (v := (-2 : Int32)) F dX5_works_32 (by decide) ?_
    exact g_iret F R rfl rfl dX5_works_34 ⟨_, _, rfl, rfl, h⟩
  replace h := h.2 c2
  refine g_iload_n F dX5_works_7 2 rfl ?_
  refine g_i2l F dX5_works_8 ?_
  refine g_lconst (v := (0 : Int64)) F dX5_works_9 (by decide) ?_
  refine g_ldc2 (v := (2 : Int64)) F dX5_works_10 wq1324 ?_
  refine rX5_X5_in F dX5_works_13 rfl h (fun r3 h => ?_)
  refine g_if_eq F dX5_works_16 (tgt := 32) (by decide) (fun c4 => ?_) (fun c4 => ?_)
  · replace h := h.1 c4
    refine g_bipush (v := (-2 : Int32)) F dX5_works_32 (by decide) ?_
    exact g_iret F R rfl rfl dX5_works_34 ⟨_, _, rfl, rfl, h⟩
  replace h := h.2 c4
  refine g_iload F dX5_works_19 4 rfl ?_
  refine g_i2l F dX5_works_21 ?_
  refine g_lconst (v := (0 : Int64)) F dX5_works_22 (by decide) ?_
  refine g_ldc2 (v := (6 : Int64)) F dX5_works_23 wq1365 ?_
  refine rX5_X5_in F dX5_works_26 rfl h (fun r5 h => ?_)
  refine g_if_ne F dX5_works_29 (tgt := 35) (by decide) (fun c6 => ?_) (fun c6 => ?_)
  · replace h := h.1 c6
    refine g_aload_n F dX5_works_35 0 rfl ?_
    refine rgX5_X5_isThere F dX5_works_36 ?_
    refine g_iload_n F dX5_works_39 1 rfl ?_
    obtain ⟨hc, h⟩ := h
    refine g_zald (wf := mW (zg z) a E) F mA12 hc dX5_works_40 ?_
    refine g_if_eq F dX5_works_41 (tgt := 57) (by decide) (fun c7 => ?_) (fun c7 => ?_)
    · replace h := h.1 c7
      exact g_sub [0, 1, 3, 4] rfl (sX5_works_57 F R h)
    replace h := h.2 c7
    refine g_aload_n F dX5_works_44 0 rfl ?_
    refine rgX5_X5_sorts F dX5_works_45 ?_
    refine g_iload_n F dX5_works_48 1 rfl ?_
    obtain ⟨hc, h⟩ := h
    refine g_iald (wf := mW (zg z) a E) F mA13 hc dX5_works_49 ?_
    refine g_iload_n F dX5_works_50 2 rfl ?_
    refine g_icmp_eq F dX5_works_51 (tgt := 57) (by decide) (fun c8 => ?_) (fun c8 => ?_)
    · replace h := h.1 c8
      exact g_sub [0, 1, 3, 4] rfl (sX5_works_57 F R h)
    replace h := h.2 c8
    refine g_bipush (v := (-13 : Int32)) F dX5_works_54 (by decide) ?_
    exact g_iret F R rfl rfl dX5_works_56 ⟨_, _, rfl, rfl, h⟩
  replace h := h.2 c6
  refine g_bipush (v := (-2 : Int32)) F dX5_works_32 (by decide) ?_
  exact g_iret F R rfl rfl dX5_works_34 ⟨_, _, rfl, rfl, h⟩
set_option maxRecDepth 20000 in
theorem ctX5_over (l : Launch) (g : kG) (A : Nat → Prop) (ws : va_W) {l0 : Int32} {Q : Int32 → Prop} (h : wX5_over l0 Q) : kCt l yX5_over cX5_over 1 (some .int) 0 40 0 0 g A [.int l0] ws (kTi ws Q) := by
  refine kCt.of (lv0 := [(0, .int l0)]) (by decide +kernel) (Nat.le_of_ble_eq_true rfl) rfl (fun z hl hg hA F R => ?_)
  subst hl hg hA
  have F : kF z cX5_over RX5 1 { frames := 0, cells := 0, slots := 0, locals := 40 } := F
  unfold wX5_over at h
  refine g_iload_n F dX5_over_0 0 rfl ?_
  refine g_if_ne F dX5_over_1 (tgt := 8) (by decide) (fun c1 => ?_) (fun c1 => ?_)
  · replace h := h.1 c1
    refine g_iload_n F dX5_over_8 0 rfl ?_
    refine g_iconst (v := (3 : Int32)) F dX5_over_9 (by decide) ?_
    refine g_icmp_ne F dX5_over_10 (tgt := 17) (by decide) (fun c2 => ?_) (fun c2 => ?_)
    · replace h := h.1 c2
      refine g_iload_n F dX5_over_17 0 rfl ?_
      refine g_iconst (v := (4 : Int32)) F dX5_over_18 (by decide) ?_
      refine g_icmp_ne F dX5_over_19 (tgt := 26) (by decide) (fun c3 => ?_) (fun c3 => ?_)
      · replace h := h.1 c3
        refine g_iconst (v := (0 : Int32)) F dX5_over_26 (by decide) ?_
        exact g_iret F R rfl rfl dX5_over_27 ⟨_, rfl, rfl, h⟩
      replace h := h.2 c3
      refine g_iconst (v := (2 : Int32)) F dX5_over_22 (by decide) ?_
      refine g_goto F dX5_over_23 (tgt := 27) (by decide) ?_
      exact g_iret F R rfl rfl dX5_over_27 ⟨_, rfl, rfl, h⟩
    replace h := h.2 c2
    refine g_iconst (v := (1 : Int32)) F dX5_over_13 (by decide) ?_
    refine g_goto F dX5_over_14 (tgt := 27) (by decide) ?_
    exact g_iret F R rfl rfl dX5_over_27 ⟨_, rfl, rfl, h⟩
  replace h := h.2 c1
  refine g_iconst (v := (-1 : Int32)) F dX5_over_4 (by decide) ?_
  refine g_goto F dX5_over_5 (tgt := 27) (by decide) ?_
  exact g_iret F R rfl rfl dX5_over_27 ⟨_, rfl, rfl, h⟩
theorem plX5_over : kPlain yX5_over 1 = true := by decide +kernel
theorem rX5_X5_over {z : kZ} {cc : ByteArray} {nL : Nat} {rm : Room} {c n pc : Nat} {lv : List (Nat × Value)} {st : List Value} {ws : va_W} {l0 : Int32} {Q : Int32 → Prop} (F : kF z cc RX5 nL rm) (hd : decode cc pc = .ok (.invokestatic 443, 3)) (hf : kFits rm 0 40 0 0 1 c n st = true) (h : wX5_over l0 Q) (k : ∀ v : Int32, Q v → kV z ws c n (pc + 3) lv (.int v :: st)) : kV z ws c n pc lv (.int l0 :: st) := g_callS F (av := [.int l0]) (ctX5_over _ _ _ ws h) wq1371 wq1372 wq114 wq1373 plX5_over hd hf (fun r ws' hq => by
    obtain ⟨v, rfl, rfl, hq⟩ := hq
    exact k v hq)
set_option maxRecDepth 20000 in
theorem sX5_taken_51 {z : kZ} {a : Nat → Nat} {E : va_W}  {Q : Int32 → kS → Prop} {l1 : Int32} {l2 : Int32} {l3 : Int32} {σ : kS} (F : kF z cX5_taken RX5 4 { frames := 2, cells := 0, slots := 0, locals := 86 }) (R : kR z (some .int) 0 0 (kPi (mW (zg z) a E) Q)) (h : wX5_taken_51 Q l1 l2 l3 σ) : kV z (mW (zg z) a E σ) 0 0 51 [(0, .ref (a 0)), (1, .int l1), (2, .int l2), (3, .int l3)] [] := by
  unfold wX5_taken_51 at h
  refine g_iload_n F dX5_taken_51 3 rfl ?_
  refine g_iload_n F dX5_taken_52 2 rfl ?_
  refine g_icmp_ne F dX5_taken_53 (tgt := 67) (by decide) (fun c10 => ?_) (fun c10 => ?_)
  · replace h := h.1 c10
    refine g_bipush (v := (-13 : Int32)) F dX5_taken_67 (by decide) ?_
    exact g_iret F R rfl rfl dX5_taken_69 ⟨_, _, rfl, rfl, h⟩
  replace h := h.2 c10
  refine g_aload_n F dX5_taken_56 0 rfl ?_
  refine rgX5_X5_rows F dX5_taken_57 ?_
  refine g_iconst (v := (3 : Int32)) F dX5_taken_60 (by decide) ?_
  refine g_iload_n F dX5_taken_61 1 rfl ?_
  refine g_imul F dX5_taken_62 ?_
  obtain ⟨hc, h⟩ := h
  refine g_iald (wf := mW (zg z) a E) F mA6 hc dX5_taken_63 ?_
  refine g_goto F dX5_taken_64 (tgt := 69) (by decide) ?_
  exact g_iret F R rfl rfl dX5_taken_69 ⟨_, _, rfl, rfl, h⟩
set_option maxRecDepth 20000 in
theorem sX5_taken_33 {z : kZ} {a : Nat → Nat} {E : va_W}  {Q : Int32 → kS → Prop} {l1 : Int32} {l2 : Int32} {l3 : Int32} {σ : kS} (F : kF z cX5_taken RX5 4 { frames := 2, cells := 0, slots := 0, locals := 86 }) (R : kR z (some .int) 0 0 (kPi (mW (zg z) a E) Q)) (h : wX5_taken_33 Q l1 l2 l3 σ) : kV z (mW (zg z) a E σ) 0 0 33 [(0, .ref (a 0)), (1, .int l1), (2, .int l2), (3, .int l3)] [] := by
  unfold wX5_taken_33 at h
  refine h (fun l3 => kV z (mW (zg z) a E σ) 0 0 33 [(0, .ref (a 0)), (1, .int l1), (2, .int l2), (3, .int l3)] []) (fun l3 h => ?_)
  refine g_iload_n F dX5_taken_33 3 rfl ?_
  refine g_iconst (v := (-1 : Int32)) F dX5_taken_34 (by decide) ?_
  refine g_icmp_eq F dX5_taken_35 (tgt := 51) (by decide) (fun c7 => ?_) (fun c7 => ?_)
  · replace h := h.1 c7
    exact (sX5_taken_51 F R h)
  replace h := h.2 c7
  refine g_iload_n F dX5_taken_38 3 rfl ?_
  refine g_iload_n F dX5_taken_39 2 rfl ?_
  refine g_icmp_eq F dX5_taken_40 (tgt := 51) (by decide) (fun c8 => ?_) (fun c8 => ?_)
  · replace h := h.1 c8
    exact (sX5_taken_51 F R h)
  replace h := h.2 c8
  refine g_iload_n F dX5_taken_43 3 rfl ?_
  refine rX5_X5_over F dX5_taken_44 rfl h (fun r9 h => ?_)
  refine g_istore_n (lv' := [(3, .int r9), (0, .ref (a 0)), (1, .int l1), (2, .int l2)]) F dX5_taken_47 rfl rfl ?_
  refine g_goto F dX5_taken_48 (tgt := 33) (by decide) ?_
  exact (g_sub [1, 2, 3, 0] rfl h)
set_option maxRecDepth 20000 in
theorem ctX5_taken (l : Launch) (g : kG) (A : Nat → Prop) (a : Nat → Nat) (E : va_W) {l1 : Int32} {l2 : Int32} {σ : kS} {Q : Int32 → kS → Prop} (h : wX5_taken l1 l2 σ Q) : kCt l yX5_taken cX5_taken 4 (some .int) 2 86 0 0 g A [.ref (a 0), .int l1, .int l2] (mW g a E σ) (kPi (mW g a E) Q) := by
  refine kCt.of (lv0 := [(0, .ref (a 0)), (1, .int l1), (2, .int l2)]) (by decide +kernel) (Nat.le_of_ble_eq_true rfl) rfl (fun z hl hg hA F R => ?_)
  subst hl hg hA
  have F : kF z cX5_taken RX5 4 { frames := 2, cells := 0, slots := 0, locals := 86 } := F
  unfold wX5_taken at h
  refine g_iload_n F dX5_taken_0 2 rfl ?_
  refine g_i2l F dX5_taken_1 ?_
  refine g_lconst (v := (0 : Int64)) F dX5_taken_2 (by decide) ?_
  refine g_ldc2 (v := (5 : Int64)) F dX5_taken_3 wq1194 ?_
  refine rX5_X5_in F dX5_taken_6 rfl h (fun r1 h => ?_)
  refine g_if_ne F dX5_taken_9 (tgt := 15) (by decide) (fun c2 => ?_) (fun c2 => ?_)
  · replace h := h.1 c2
    refine g_aload_n F dX5_taken_15 0 rfl ?_
    refine g_iload_n F dX5_taken_16 1 rfl ?_
    refine rX5_X5_isWork F dX5_taken_17 rfl h (fun r4 s3 h => ?_)
    refine g_if_ne F dX5_taken_20 (tgt := 26) (by decide) (fun c5 => ?_) (fun c5 => ?_)
    · replace h := h.1 c5
      refine g_aload_n F dX5_taken_26 0 rfl ?_
      refine rgX5_X5_kinds F dX5_taken_27 ?_
      refine g_iload_n F dX5_taken_30 1 rfl ?_
      obtain ⟨hc, h⟩ := h
      refine g_iald (wf := mW (zg z) a E) F mA5 hc dX5_taken_31 ?_
      refine g_topi (fun x6 ex6 => ?_)
      replace h := h x6 ex6
      refine g_istore_n (lv' := [(3, .int x6), (0, .ref (a 0)), (1, .int l1), (2, .int l2)]) F dX5_taken_32 rfl rfl ?_
      exact g_sub [1, 2, 3, 0] rfl (sX5_taken_33 F R h)
    replace h := h.2 c5
    refine g_bipush (v := (-11 : Int32)) F dX5_taken_23 (by decide) ?_
    exact g_iret F R rfl rfl dX5_taken_25 ⟨_, _, rfl, rfl, h⟩
  replace h := h.2 c2
  refine g_bipush (v := (-2 : Int32)) F dX5_taken_12 (by decide) ?_
  exact g_iret F R rfl rfl dX5_taken_14 ⟨_, _, rfl, rfl, h⟩
set_option maxRecDepth 20000 in
theorem ctJ6_bitCount (l : Launch) (g : kG) (A : Nat → Prop) (ws : va_W) {l0 : Int32} {Q : Int32 → Prop} (h : wJ6_bitCount l0 Q) : kCt l yJ6_bitCount_0f7a4 cJ6_bitCount_0f7a4 1 (some .int) 0 40 0 0 g A [.int l0] ws (kTi ws Q) := by
  refine kCt.of (lv0 := [(0, .int l0)]) (by decide +kernel) (Nat.le_of_ble_eq_true rfl) rfl (fun z hl hg hA F R => ?_)
  subst hl hg hA
  have F : kF z cJ6_bitCount_0f7a4 RJ6 1 { frames := 0, cells := 0, slots := 0, locals := 40 } := F
  unfold wJ6_bitCount at h
  refine g_iload_n F dJ6_bitCount_0f7a4_0 0 rfl ?_
  refine g_iload_n F dJ6_bitCount_0f7a4_1 0 rfl ?_
  refine g_iconst (v := (1 : Int32)) F dJ6_bitCount_0f7a4_2 (by decide) ?_
  refine g_iushr F dJ6_bitCount_0f7a4_3 ?_
  refine g_ldcw (v := (1431655765 : Int32)) F dJ6_bitCount_0f7a4_4 wq586 ?_
  refine g_iand F dJ6_bitCount_0f7a4_7 ?_
  refine g_isub F dJ6_bitCount_0f7a4_8 ?_
  refine g_topi (fun x1 ex1 => ?_)
  replace h := h x1 ex1
  refine g_istore_n (lv' := [(0, .int x1)]) F dJ6_bitCount_0f7a4_9 rfl rfl ?_
  refine g_iload_n F dJ6_bitCount_0f7a4_10 0 rfl ?_
  refine g_ldcw (v := (858993459 : Int32)) F dJ6_bitCount_0f7a4_11 wq587 ?_
  refine g_iand F dJ6_bitCount_0f7a4_14 ?_
  refine g_iload_n F dJ6_bitCount_0f7a4_15 0 rfl ?_
  refine g_iconst (v := (2 : Int32)) F dJ6_bitCount_0f7a4_16 (by decide) ?_
  refine g_iushr F dJ6_bitCount_0f7a4_17 ?_
  refine g_ldcw (v := (858993459 : Int32)) F dJ6_bitCount_0f7a4_18 wq587 ?_
  refine g_iand F dJ6_bitCount_0f7a4_21 ?_
  refine g_iadd F dJ6_bitCount_0f7a4_22 ?_
  refine g_topi (fun x2 ex2 => ?_)
  replace h := h x2 ex2
  refine g_istore_n (lv' := [(0, .int x2)]) F dJ6_bitCount_0f7a4_23 rfl rfl ?_
  refine g_iload_n F dJ6_bitCount_0f7a4_24 0 rfl ?_
  refine g_iload_n F dJ6_bitCount_0f7a4_25 0 rfl ?_
  refine g_iconst (v := (4 : Int32)) F dJ6_bitCount_0f7a4_26 (by decide) ?_
  refine g_iushr F dJ6_bitCount_0f7a4_27 ?_
  refine g_iadd F dJ6_bitCount_0f7a4_28 ?_
  refine g_ldcw (v := (252645135 : Int32)) F dJ6_bitCount_0f7a4_29 wq588 ?_
  refine g_iand F dJ6_bitCount_0f7a4_32 ?_
  refine g_topi (fun x3 ex3 => ?_)
  replace h := h x3 ex3
  refine g_istore_n (lv' := [(0, .int x3)]) F dJ6_bitCount_0f7a4_33 rfl rfl ?_
  refine g_iload_n F dJ6_bitCount_0f7a4_34 0 rfl ?_
  refine g_iload_n F dJ6_bitCount_0f7a4_35 0 rfl ?_
  refine g_bipush (v := (8 : Int32)) F dJ6_bitCount_0f7a4_36 (by decide) ?_
  refine g_iushr F dJ6_bitCount_0f7a4_38 ?_
  refine g_iadd F dJ6_bitCount_0f7a4_39 ?_
  refine g_topi (fun x4 ex4 => ?_)
  replace h := h x4 ex4
  refine g_istore_n (lv' := [(0, .int x4)]) F dJ6_bitCount_0f7a4_40 rfl rfl ?_
  refine g_iload_n F dJ6_bitCount_0f7a4_41 0 rfl ?_
  refine g_iload_n F dJ6_bitCount_0f7a4_42 0 rfl ?_
  refine g_bipush (v := (16 : Int32)) F dJ6_bitCount_0f7a4_43 (by decide) ?_
  refine g_iushr F dJ6_bitCount_0f7a4_45 ?_
  refine g_iadd F dJ6_bitCount_0f7a4_46 ?_
  refine g_topi (fun x5 ex5 => ?_)
  replace h := h x5 ex5
  refine g_istore_n (lv' := [(0, .int x5)]) F dJ6_bitCount_0f7a4_47 rfl rfl ?_
  refine g_iload_n F dJ6_bitCount_0f7a4_48 0 rfl ?_
  refine g_bipush (v := (63 : Int32)) F dJ6_bitCount_0f7a4_49 (by decide) ?_
  refine g_iand F dJ6_bitCount_0f7a4_51 ?_
  exact g_iret F R rfl rfl dJ6_bitCount_0f7a4_52 ⟨_, rfl, rfl, h⟩
set_option maxRecDepth 20000 in
theorem ctX3_codeOf (l : Launch) (g : kG) (A : Nat → Prop) (a : Nat → Nat) (tx : List kTxt) (E : va_W) {T : kTxt} (hT : xIn g E T) {l1 : Int32} {σ : kS} {Q : kRow → kS → Prop} (h : wX3_codeOf T l1 σ Q) : kCt l yX3_codeOf cX3_codeOf 2 (some (.array .int)) 0 40 0 0 g A [.ref T.1, .int l1] (xW g a tx E σ) (kPd (xW g a tx E) g E Q) := by
  refine kCt.of (lv0 := [(0, .ref T.1), (1, .int l1)]) (by decide +kernel) (Nat.le_of_ble_eq_true rfl) rfl (fun z hl hg hA F R => ?_)
  subst hl hg hA
  have F : kF z cX3_codeOf RX3 2 { frames := 0, cells := 0, slots := 0, locals := 40 } := F
  unfold wX3_codeOf at h
  refine g_iload_n F dX3_codeOf_0 1 rfl ?_
  refine g_if_ne F dX3_codeOf_1 (tgt := 9) (by decide) (fun c1 => ?_) (fun c1 => ?_)
  · replace h := h.1 c1
    refine g_iload_n F dX3_codeOf_9 1 rfl ?_
    refine g_iconst (v := (1 : Int32)) F dX3_codeOf_10 (by decide) ?_
    refine g_icmp_ne F dX3_codeOf_11 (tgt := 21) (by decide) (fun c2 => ?_) (fun c2 => ?_)
    · replace h := h.1 c2
      refine g_aload_n F dX3_codeOf_21 0 rfl ?_
      refine rgX3_X3_calls F hT dX3_codeOf_22 ?_
      exact g_aret F R (Or.inr ⟨_, rfl⟩) (Or.inr ⟨_, rfl⟩) (Nat.le_refl 0) (Nat.le_refl 0) dX3_codeOf_25 ⟨_, _, rfl, hT.2.2.2, rfl, h⟩
    replace h := h.2 c2
    refine g_aload_n F dX3_codeOf_14 0 rfl ?_
    refine rgX3_X3_shrinks F hT dX3_codeOf_15 ?_
    refine g_goto F dX3_codeOf_18 (tgt := 25) (by decide) ?_
    exact g_aret F R (Or.inr ⟨_, rfl⟩) (Or.inr ⟨_, rfl⟩) (Nat.le_refl 0) (Nat.le_refl 0) dX3_codeOf_25 ⟨_, _, rfl, hT.2.2.1, rfl, h⟩
  replace h := h.2 c1
  refine g_aload_n F dX3_codeOf_4 0 rfl ?_
  refine rgX3_X3_rains F hT dX3_codeOf_5 ?_
  exact g_aret F R (Or.inr ⟨_, rfl⟩) (Or.inr ⟨_, rfl⟩) (Nat.le_refl 0) (Nat.le_refl 0) dX3_codeOf_8 ⟨_, _, rfl, hT.2.1, rfl, h⟩
set_option maxRecDepth 20000 in
theorem ctX3_turned (l : Launch) (g : kG) (A : Nat → Prop) (ws : va_W) {l0 : Int32} {l1 : Int32} {Q : Int32 → Prop} (h : wX3_turned l0 l1 Q) : kCt l yX3_turned cX3_turned 2 (some .int) 0 40 0 0 g A [.int l0, .int l1] ws (kTi ws Q) := by
  refine kCt.of (lv0 := [(0, .int l0), (1, .int l1)]) (by decide +kernel) (Nat.le_of_ble_eq_true rfl) rfl (fun z hl hg hA F R => ?_)
  subst hl hg hA
  have F : kF z cX3_turned RX3 2 { frames := 0, cells := 0, slots := 0, locals := 40 } := F
  unfold wX3_turned at h
  refine g_iload_n F dX3_turned_0 0 rfl ?_
  refine g_bipush (v := (-8 : Int32)) F dX3_turned_1 (by decide) ?_
  refine g_icmp_ne F dX3_turned_3 (tgt := 9) (by decide) (fun c1 => ?_) (fun c1 => ?_)
  · replace h := h.1 c1
    refine g_iload_n F dX3_turned_9 1 rfl ?_
    refine g_if_ne F dX3_turned_10 (tgt := 17) (by decide) (fun c2 => ?_) (fun c2 => ?_)
    · replace h := h.1 c2
      refine g_iconst (v := (0 : Int32)) F dX3_turned_17 (by decide) ?_
      exact g_iret F R rfl rfl dX3_turned_18 ⟨_, rfl, rfl, h⟩
    replace h := h.2 c2
    refine g_iconst (v := (1 : Int32)) F dX3_turned_13 (by decide) ?_
    refine g_goto F dX3_turned_14 (tgt := 18) (by decide) ?_
    exact g_iret F R rfl rfl dX3_turned_18 ⟨_, rfl, rfl, h⟩
  replace h := h.2 c1
  refine g_iload_n F dX3_turned_6 1 rfl ?_
  refine g_ineg F dX3_turned_7 ?_
  exact g_iret F R rfl rfl dX3_turned_8 ⟨_, rfl, rfl, h⟩
set_option maxRecDepth 20000 in
theorem ctX3_joined (l : Launch) (g : kG) (A : Nat → Prop) (ws : va_W) {l0 : Int32} {l1 : Int32} {l2 : Int32} {Q : Int32 → Prop} (h : wX3_joined l0 l1 l2 Q) : kCt l yX3_joined cX3_joined 3 (some .int) 0 40 0 0 g A [.int l0, .int l1, .int l2] ws (kTi ws Q) := by
  refine kCt.of (lv0 := [(0, .int l0), (1, .int l1), (2, .int l2)]) (by decide +kernel) (Nat.le_of_ble_eq_true rfl) rfl (fun z hl hg hA F R => ?_)
  subst hl hg hA
  have F : kF z cX3_joined RX3 3 { frames := 0, cells := 0, slots := 0, locals := 40 } := F
  unfold wX3_joined at h
  refine g_iload_n F dX3_joined_0 0 rfl ?_
  by_cases c1 : l0 = (-14 : Int32)
  · replace h := h.1 c1
    refine g_tableIn F dX3_joined_1 (-14 : Int32) c1 (off := 93) (tgt := 94) (by decide) (by decide) ?_
    refine g_iload_n F dX3_joined_94 1 rfl ?_
    refine g_iload_n F dX3_joined_95 2 rfl ?_
    refine g_isub F dX3_joined_96 ?_
    exact g_iret F R rfl rfl dX3_joined_97 ⟨_, rfl, rfl, h⟩
  replace h := h.2
  by_cases c2 : l0 = (-13 : Int32)
  · replace h := h.1 c2
    refine g_tableIn F dX3_joined_1 (-13 : Int32) c2 (off := 89) (tgt := 90) (by decide) (by decide) ?_
    refine g_iload_n F dX3_joined_90 1 rfl ?_
    refine g_iload_n F dX3_joined_91 2 rfl ?_
    refine g_iadd F dX3_joined_92 ?_
    exact g_iret F R rfl rfl dX3_joined_93 ⟨_, rfl, rfl, h⟩
  replace h := h.2
  by_cases c3 : l0 = (-12 : Int32)
  · replace h := h.1 c3
    refine g_tableIn F dX3_joined_1 (-12 : Int32) c3 (off := 78) (tgt := 79) (by decide) (by decide) ?_
    refine g_iload_n F dX3_joined_79 1 rfl ?_
    refine g_iload_n F dX3_joined_80 2 rfl ?_
    refine g_icmp_ne F dX3_joined_81 (tgt := 88) (by decide) (fun c4 => ?_) (fun c4 => ?_)
    · replace h := h.1 c4
      refine g_iconst (v := (0 : Int32)) F dX3_joined_88 (by decide) ?_
      exact g_iret F R rfl rfl dX3_joined_89 ⟨_, rfl, rfl, h⟩
    replace h := h.2 c4
    refine g_iconst (v := (1 : Int32)) F dX3_joined_84 (by decide) ?_
    refine g_goto F dX3_joined_85 (tgt := 89) (by decide) ?_
    exact g_iret F R rfl rfl dX3_joined_89 ⟨_, rfl, rfl, h⟩
  replace h := h.2
  by_cases c5 : l0 = (-11 : Int32)
  · replace h := h.1 c5
    refine g_tableIn F dX3_joined_1 (-11 : Int32) c5 (off := 67) (tgt := 68) (by decide) (by decide) ?_
    refine g_iload_n F dX3_joined_68 1 rfl ?_
    refine g_iload_n F dX3_joined_69 2 rfl ?_
    refine g_icmp_ge F dX3_joined_70 (tgt := 77) (by decide) (fun c6 => ?_) (fun c6 => ?_)
    · replace h := h.1 c6
      refine g_iconst (v := (0 : Int32)) F dX3_joined_77 (by decide) ?_
      exact g_iret F R rfl rfl dX3_joined_78 ⟨_, rfl, rfl, h⟩
    replace h := h.2 c6
    refine g_iconst (v := (1 : Int32)) F dX3_joined_73 (by decide) ?_
    refine g_goto F dX3_joined_74 (tgt := 78) (by decide) ?_
    exact g_iret F R rfl rfl dX3_joined_78 ⟨_, rfl, rfl, h⟩
  replace h := h.2
  by_cases c7 : l0 = (-10 : Int32)
  · replace h := h.1 c7
    refine g_tableIn F dX3_joined_1 (-10 : Int32) c7 (off := 53) (tgt := 54) (by decide) (by decide) ?_
    refine g_iload_n F dX3_joined_54 1 rfl ?_
    refine g_if_eq F dX3_joined_55 (tgt := 66) (by decide) (fun c8 => ?_) (fun c8 => ?_)
    · replace h := h.1 c8
      refine g_iconst (v := (0 : Int32)) F dX3_joined_66 (by decide) ?_
      exact g_iret F R rfl rfl dX3_joined_67 ⟨_, rfl, rfl, h⟩
    replace h := h.2 c8
    refine g_iload_n F dX3_joined_58 2 rfl ?_
    refine g_if_eq F dX3_joined_59 (tgt := 66) (by decide) (fun c9 => ?_) (fun c9 => ?_)
    · replace h := h.1 c9
      refine g_iconst (v := (0 : Int32)) F dX3_joined_66 (by decide) ?_
      exact g_iret F R rfl rfl dX3_joined_67 ⟨_, rfl, rfl, h⟩
    replace h := h.2 c9
    refine g_iconst (v := (1 : Int32)) F dX3_joined_62 (by decide) ?_
    refine g_goto F dX3_joined_63 (tgt := 67) (by decide) ?_
    exact g_iret F R rfl rfl dX3_joined_67 ⟨_, rfl, rfl, h⟩
  replace h := h.2
  by_cases c10 : l0 = (-9 : Int32)
  · replace h := h.1 c10
    refine g_tableIn F dX3_joined_1 (-9 : Int32) c10 (off := 39) (tgt := 40) (by decide) (by decide) ?_
    refine g_iload_n F dX3_joined_40 1 rfl ?_
    refine g_if_ne F dX3_joined_41 (tgt := 48) (by decide) (fun c11 => ?_) (fun c11 => ?_)
    · replace h := h.1 c11
      refine g_iconst (v := (1 : Int32)) F dX3_joined_48 (by decide) ?_
      refine g_goto F dX3_joined_49 (tgt := 53) (by decide) ?_
      exact g_iret F R rfl rfl dX3_joined_53 ⟨_, rfl, rfl, h⟩
    replace h := h.2 c11
    refine g_iload_n F dX3_joined_44 2 rfl ?_
    refine g_if_eq F dX3_joined_45 (tgt := 52) (by decide) (fun c12 => ?_) (fun c12 => ?_)
    · replace h := h.1 c12
      refine g_iconst (v := (0 : Int32)) F dX3_joined_52 (by decide) ?_
      exact g_iret F R rfl rfl dX3_joined_53 ⟨_, rfl, rfl, h⟩
    replace h := h.2 c12
    refine g_iconst (v := (1 : Int32)) F dX3_joined_48 (by decide) ?_
    refine g_goto F dX3_joined_49 (tgt := 53) (by decide) ?_
    exact g_iret F R rfl rfl dX3_joined_53 ⟨_, rfl, rfl, h⟩
  replace h := h.2
  replace h := h c1 c2 c3 c5 c7 c10
  refine g_tableOut F dX3_joined_1 6 (by decide) (lt_s (lt_s (lt_s (lt_s (lt_s (lt_s (lt_0) c1) c2) c3) c5) c7) c10) (tgt := 98) (by decide) ?_
  refine g_iload_n F dX3_joined_98 1 rfl ?_
  refine g_iload_n F dX3_joined_99 2 rfl ?_
  refine g_imul F dX3_joined_100 ?_
  exact g_iret F R rfl rfl dX3_joined_101 ⟨_, rfl, rfl, h⟩
set_option maxRecDepth 20000 in
theorem ctX0_take (l : Launch) (g : kG) (A : Nat → Prop) (a : Nat → Nat) (tx : List kTxt) (E : va_W) {b : Nat} {b1 : Nat} (hb : isFen b) (hb1 : isFen b1) {σ : kS} {Q : kS → Prop} (h : wX0_take b b1 σ Q) : kCt l yX0_take cX0_take 2 none 1 80 0 0 g A [.ref (a b), .ref (a b1)] (xW g a tx E σ) (kPv (xW g a tx E) Q) := by
  refine kCt.of (lv0 := [(0, .ref (a b)), (1, .ref (a b1))]) (by decide +kernel) (Nat.le_of_ble_eq_true rfl) rfl (fun z hl hg hA F R => ?_)
  subst hl hg hA
  have F : kF z cX0_take RX0 2 { frames := 1, cells := 0, slots := 0, locals := 80 } := F
  unfold wX0_take at h
  refine g_aload_n F dX0_take_0 1 rfl ?_
  refine rgX0_X0_height hb1 F dX0_take_1 ?_
  refine g_iconst (v := (0 : Int32)) F dX0_take_4 (by decide) ?_
  refine g_aload_n F dX0_take_5 0 rfl ?_
  refine rgX0_X0_height hb F dX0_take_6 ?_
  refine g_iconst (v := (0 : Int32)) F dX0_take_9 (by decide) ?_
  refine g_bipush (v := (12 : Int32)) F dX0_take_10 (by decide) ?_
  obtain ⟨hc, h⟩ := h
  refine g_copy F wq611 wq511 wq510 wq120 (p0 := (b1 + 1)) (p1 := (b + 1)) ((xAF1 hb1) _).1 ((xAF1 hb) _).1 hc (((xAF1 hb) _).2 _) dX0_take_12 rfl ?_
  refine g_name (wf := xW (zg z) a tx E) (fun s1 es1 => ?_)
  replace h := h s1 es1
  refine g_aload_n F dX0_take_15 1 rfl ?_
  refine rgX0_X0_peat hb1 F dX0_take_16 ?_
  refine g_iconst (v := (0 : Int32)) F dX0_take_19 (by decide) ?_
  refine g_aload_n F dX0_take_20 0 rfl ?_
  refine rgX0_X0_peat hb F dX0_take_21 ?_
  refine g_iconst (v := (0 : Int32)) F dX0_take_24 (by decide) ?_
  refine g_bipush (v := (12 : Int32)) F dX0_take_25 (by decide) ?_
  obtain ⟨hc, h⟩ := h
  refine g_copy F wq611 wq511 wq510 wq120 (p0 := (b1 + 2)) (p1 := (b + 2)) ((xAF2 hb1) _).1 ((xAF2 hb) _).1 hc (((xAF2 hb) _).2 _) dX0_take_27 rfl ?_
  refine g_name (wf := xW (zg z) a tx E) (fun s2 es2 => ?_)
  replace h := h s2 es2
  refine g_aload_n F dX0_take_30 1 rfl ?_
  refine rgX0_X0_water hb1 F dX0_take_31 ?_
  refine g_iconst (v := (0 : Int32)) F dX0_take_34 (by decide) ?_
  refine g_aload_n F dX0_take_35 0 rfl ?_
  refine rgX0_X0_water hb F dX0_take_36 ?_
  refine g_iconst (v := (0 : Int32)) F dX0_take_39 (by decide) ?_
  refine g_bipush (v := (12 : Int32)) F dX0_take_40 (by decide) ?_
  obtain ⟨hc, h⟩ := h
  refine g_copy F wq611 wq511 wq510 wq120 (p0 := (b1 + 3)) (p1 := (b + 3)) ((xAF3 hb1) _).1 ((xAF3 hb) _).1 hc (((xAF3 hb) _).2 _) dX0_take_42 rfl ?_
  refine g_name (wf := xW (zg z) a tx E) (fun s3 es3 => ?_)
  replace h := h s3 es3
  refine g_aload_n F dX0_take_45 1 rfl ?_
  refine rgX0_X0_kind hb1 F dX0_take_46 ?_
  refine g_iconst (v := (0 : Int32)) F dX0_take_49 (by decide) ?_
  refine g_aload_n F dX0_take_50 0 rfl ?_
  refine rgX0_X0_kind hb F dX0_take_51 ?_
  refine g_iconst (v := (0 : Int32)) F dX0_take_54 (by decide) ?_
  refine g_bipush (v := (6 : Int32)) F dX0_take_55 (by decide) ?_
  obtain ⟨hc, h⟩ := h
  refine g_copy F wq611 wq511 wq510 wq120 (p0 := (b1 + 4)) (p1 := (b + 4)) ((xAF4 hb1) _).1 ((xAF4 hb) _).1 hc (((xAF4 hb) _).2 _) dX0_take_57 rfl ?_
  refine g_name (wf := xW (zg z) a tx E) (fun s4 es4 => ?_)
  replace h := h s4 es4
  refine g_aload_n F dX0_take_60 1 rfl ?_
  refine rgX0_X0_number hb1 F dX0_take_61 ?_
  refine g_iconst (v := (0 : Int32)) F dX0_take_64 (by decide) ?_
  refine g_aload_n F dX0_take_65 0 rfl ?_
  refine rgX0_X0_number hb F dX0_take_66 ?_
  refine g_iconst (v := (0 : Int32)) F dX0_take_69 (by decide) ?_
  refine g_bipush (v := (6 : Int32)) F dX0_take_70 (by decide) ?_
  obtain ⟨hc, h⟩ := h
  refine g_copy F wq611 wq511 wq510 wq120 (p0 := (b1 + 5)) (p1 := (b + 5)) ((xAF5 hb1) _).1 ((xAF5 hb) _).1 hc (((xAF5 hb) _).2 _) dX0_take_72 rfl ?_
  refine g_name (wf := xW (zg z) a tx E) (fun s5 es5 => ?_)
  replace h := h s5 es5
  refine g_aload_n F dX0_take_75 1 rfl ?_
  refine rgX0_X0_place hb1 F dX0_take_76 ?_
  refine g_iconst (v := (0 : Int32)) F dX0_take_79 (by decide) ?_
  refine g_aload_n F dX0_take_80 0 rfl ?_
  refine rgX0_X0_place hb F dX0_take_81 ?_
  refine g_iconst (v := (0 : Int32)) F dX0_take_84 (by decide) ?_
  refine g_bipush (v := (6 : Int32)) F dX0_take_85 (by decide) ?_
  obtain ⟨hc, h⟩ := h
  refine g_copy F wq611 wq511 wq510 wq120 (p0 := (b1 + 6)) (p1 := (b + 6)) ((xAF6 hb1) _).1 ((xAF6 hb) _).1 hc (((xAF6 hb) _).2 _) dX0_take_87 rfl ?_
  refine g_name (wf := xW (zg z) a tx E) (fun s6 es6 => ?_)
  replace h := h s6 es6
  refine g_aload_n F dX0_take_90 1 rfl ?_
  refine rgX0_X0_going hb1 F dX0_take_91 ?_
  refine g_iconst (v := (0 : Int32)) F dX0_take_94 (by decide) ?_
  refine g_aload_n F dX0_take_95 0 rfl ?_
  refine rgX0_X0_going hb F dX0_take_96 ?_
  refine g_iconst (v := (0 : Int32)) F dX0_take_99 (by decide) ?_
  refine g_bipush (v := (6 : Int32)) F dX0_take_100 (by decide) ?_
  obtain ⟨hc, h⟩ := h
  refine g_copy F wq611 wq511 wq510 wq120 (p0 := (b1 + 7)) (p1 := (b + 7)) ((xAF7 hb1) _).1 ((xAF7 hb) _).1 hc (((xAF7 hb) _).2 _) dX0_take_102 rfl ?_
  refine g_name (wf := xW (zg z) a tx E) (fun s7 es7 => ?_)
  replace h := h s7 es7
  refine g_aload_n F dX0_take_105 0 rfl ?_
  refine g_aload_n F dX0_take_106 1 rfl ?_
  refine rgX0_X0_river hb1 F dX0_take_107 ?_
  refine rpX0_X0_river hb F dX0_take_110 ?_
  refine g_name (wf := xW (zg z) a tx E) (fun s8 es8 => ?_)
  replace h := h s8 es8
  refine g_aload_n F dX0_take_113 0 rfl ?_
  refine g_aload_n F dX0_take_114 1 rfl ?_
  refine rgX0_X0_year hb1 F dX0_take_115 ?_
  refine rpX0_X0_year hb F dX0_take_118 ?_
  refine g_name (wf := xW (zg z) a tx E) (fun s9 es9 => ?_)
  replace h := h s9 es9
  refine g_aload_n F dX0_take_121 0 rfl ?_
  refine g_aload_n F dX0_take_122 1 rfl ?_
  refine rgX0_X0_paid hb1 F dX0_take_123 ?_
  refine rpX0_X0_paid hb F dX0_take_126 ?_
  refine g_name (wf := xW (zg z) a tx E) (fun s10 es10 => ?_)
  replace h := h s10 es10
  refine g_aload_n F dX0_take_129 0 rfl ?_
  refine g_aload_n F dX0_take_130 1 rfl ?_
  refine rgX0_X0_works hb1 F dX0_take_131 ?_
  refine rpX0_X0_works hb F dX0_take_134 ?_
  refine g_name (wf := xW (zg z) a tx E) (fun s11 es11 => ?_)
  replace h := h s11 es11
  refine g_aload_n F dX0_take_137 0 rfl ?_
  refine g_aload_n F dX0_take_138 1 rfl ?_
  refine rgX0_X0_rule hb1 F dX0_take_139 ?_
  refine rpX0_X0_rule hb F dX0_take_142 ?_
  refine g_name (wf := xW (zg z) a tx E) (fun s12 es12 => ?_)
  replace h := h s12 es12
  exact g_vret F R rfl rfl dX0_take_145 ⟨_, rfl, rfl, h⟩
set_option maxRecDepth 20000 in
theorem ctX0_add (l : Launch) (g : kG) (A : Nat → Prop) (a : Nat → Nat) (tx : List kTxt) (E : va_W) {b : Nat} (hb : isFen b) {l1 : Int32} {l2 : Int32} {l3 : Int32} {σ : kS} {Q : kS → Prop} (h : wX0_add b l1 l2 l3 σ Q) : kCt l yX0_add cX0_add 4 none 0 40 0 0 g A [.ref (a b), .int l1, .int l2, .int l3] (xW g a tx E σ) (kPv (xW g a tx E) Q) := by
  refine kCt.of (lv0 := [(0, .ref (a b)), (1, .int l1), (2, .int l2), (3, .int l3)]) (by decide +kernel) (Nat.le_of_ble_eq_true rfl) rfl (fun z hl hg hA F R => ?_)
  subst hl hg hA
  have F : kF z cX0_add RX0 4 { frames := 0, cells := 0, slots := 0, locals := 40 } := F
  unfold wX0_add at h
  refine g_aload_n F dX0_add_0 0 rfl ?_
  refine rgX0_X0_works hb F dX0_add_1 ?_
  refine g_bipush (v := (6 : Int32)) F dX0_add_4 (by decide) ?_
  refine g_icmp_ge F dX0_add_6 (tgt := 59) (by decide) (fun c1 => ?_) (fun c1 => ?_)
  · replace h := h.1 c1
    exact g_vret F R rfl rfl dX0_add_59 ⟨_, rfl, rfl, h⟩
  replace h := h.2 c1
  refine g_aload_n F dX0_add_9 0 rfl ?_
  refine rgX0_X0_kind hb F dX0_add_10 ?_
  refine g_aload_n F dX0_add_13 0 rfl ?_
  refine rgX0_X0_works hb F dX0_add_14 ?_
  refine g_iload_n F dX0_add_17 1 rfl ?_
  obtain ⟨hc, h⟩ := h
  refine g_iast (wf := xW (zg z) a tx E) F (xAF4 hb) hc dX0_add_18 ?_
  refine g_name (wf := xW (zg z) a tx E) (fun s2 es2 => ?_)
  replace h := h s2 es2
  refine g_aload_n F dX0_add_19 0 rfl ?_
  refine rgX0_X0_number hb F dX0_add_20 ?_
  refine g_aload_n F dX0_add_23 0 rfl ?_
  refine rgX0_X0_works hb F dX0_add_24 ?_
  refine g_iload_n F dX0_add_27 2 rfl ?_
  obtain ⟨hc, h⟩ := h
  refine g_iast (wf := xW (zg z) a tx E) F (xAF5 hb) hc dX0_add_28 ?_
  refine g_name (wf := xW (zg z) a tx E) (fun s3 es3 => ?_)
  replace h := h s3 es3
  refine g_aload_n F dX0_add_29 0 rfl ?_
  refine rgX0_X0_place hb F dX0_add_30 ?_
  refine g_aload_n F dX0_add_33 0 rfl ?_
  refine rgX0_X0_works hb F dX0_add_34 ?_
  refine g_iload_n F dX0_add_37 3 rfl ?_
  obtain ⟨hc, h⟩ := h
  refine g_iast (wf := xW (zg z) a tx E) F (xAF6 hb) hc dX0_add_38 ?_
  refine g_name (wf := xW (zg z) a tx E) (fun s4 es4 => ?_)
  replace h := h s4 es4
  refine g_aload_n F dX0_add_39 0 rfl ?_
  refine rgX0_X0_going hb F dX0_add_40 ?_
  refine g_aload_n F dX0_add_43 0 rfl ?_
  refine rgX0_X0_works hb F dX0_add_44 ?_
  refine g_iconst (v := (1 : Int32)) F dX0_add_47 (by decide) ?_
  obtain ⟨hc, h⟩ := h
  refine g_iast (wf := xW (zg z) a tx E) F (xAF7 hb) hc dX0_add_48 ?_
  refine g_name (wf := xW (zg z) a tx E) (fun s5 es5 => ?_)
  replace h := h s5 es5
  refine g_aload_n F dX0_add_49 0 rfl ?_
  refine g_dup F dX0_add_50 rfl ?_
  refine rgX0_X0_works hb F dX0_add_51 ?_
  refine g_iconst (v := (1 : Int32)) F dX0_add_54 (by decide) ?_
  refine g_iadd F dX0_add_55 ?_
  refine rpX0_X0_works hb F dX0_add_56 ?_
  refine g_name (wf := xW (zg z) a tx E) (fun s6 es6 => ?_)
  replace h := h s6 es6
  exact g_vret F R rfl rfl dX0_add_59 ⟨_, rfl, rfl, h⟩
set_option maxRecDepth 20000 in
theorem ctX0_most (l : Launch) (g : kG) (A : Nat → Prop) (ws : va_W) {l0 : Int32} {Q : Int32 → Prop} (h : wX0_most l0 Q) : kCt l yX0_most cX0_most 1 (some .int) 0 40 0 0 g A [.int l0] ws (kTi ws Q) := by
  refine kCt.of (lv0 := [(0, .int l0)]) (by decide +kernel) (Nat.le_of_ble_eq_true rfl) rfl (fun z hl hg hA F R => ?_)
  subst hl hg hA
  have F : kF z cX0_most RX0 1 { frames := 0, cells := 0, slots := 0, locals := 40 } := F
  unfold wX0_most at h
  refine g_iload_n F dX0_most_0 0 rfl ?_
  refine g_if_lt F dX0_most_1 (tgt := 20) (by decide) (fun c1 => ?_) (fun c1 => ?_)
  · replace h := h.1 c1
    refine g_iconst (v := (0 : Int32)) F dX0_most_20 (by decide) ?_
    exact g_iret F R rfl rfl dX0_most_21 ⟨_, rfl, rfl, h⟩
  replace h := h.2 c1
  refine g_iload_n F dX0_most_4 0 rfl ?_
  refine g_gets F F.2.2.2.2.2.2.2.1.2.1.1 wq293 dX0_most_5 ?_
  refine g_tlen (v := (9 : Int32)) F F.2.2.2.2.2.2.2.1.2.1.2 (by decide) dX0_most_8 ?_
  refine g_icmp_ge F dX0_most_9 (tgt := 20) (by decide) (fun c2 => ?_) (fun c2 => ?_)
  · replace h := h.1 c2
    refine g_iconst (v := (0 : Int32)) F dX0_most_20 (by decide) ?_
    exact g_iret F R rfl rfl dX0_most_21 ⟨_, rfl, rfl, h⟩
  replace h := h.2 c2
  refine g_gets F F.2.2.2.2.2.2.2.1.2.1.1 wq293 dX0_most_12 ?_
  refine g_iload_n F dX0_most_15 0 rfl ?_
  obtain ⟨hc, h⟩ := h
  refine g_tald F F.2.2.2.2.2.2.2.1.2.1.2 hc dX0_most_16 ?_
  refine g_goto F dX0_most_17 (tgt := 21) (by decide) ?_
  exact g_iret F R rfl rfl dX0_most_21 ⟨_, rfl, rfl, h⟩
set_option maxRecDepth 20000 in
theorem ctX4_isCell (l : Launch) (g : kG) (A : Nat → Prop) (ws : va_W) {l0 : Int32} {Q : Int32 → Prop} (h : wX4_isCell l0 Q) : kCt l yX4_isCell cX4_isCell 1 (some .boolean) 0 40 0 0 g A [.int l0] ws (kTi ws Q) := by
  refine kCt.of (lv0 := [(0, .int l0)]) (by decide +kernel) (Nat.le_of_ble_eq_true rfl) rfl (fun z hl hg hA F R => ?_)
  subst hl hg hA
  have F : kF z cX4_isCell RX4 1 { frames := 0, cells := 0, slots := 0, locals := 40 } := F
  unfold wX4_isCell at h
  refine g_iload_n F dX4_isCell_0 0 rfl ?_
  refine g_if_lt F dX4_isCell_1 (tgt := 14) (by decide) (fun c1 => ?_) (fun c1 => ?_)
  · replace h := h.1 c1
    refine g_iconst (v := (0 : Int32)) F dX4_isCell_14 (by decide) ?_
    exact g_zret F R rfl rfl rfl dX4_isCell_15 ⟨_, rfl, rfl, h⟩
  replace h := h.2 c1
  refine g_iload_n F dX4_isCell_4 0 rfl ?_
  refine g_bipush (v := (12 : Int32)) F dX4_isCell_5 (by decide) ?_
  refine g_icmp_ge F dX4_isCell_7 (tgt := 14) (by decide) (fun c2 => ?_) (fun c2 => ?_)
  · replace h := h.1 c2
    refine g_iconst (v := (0 : Int32)) F dX4_isCell_14 (by decide) ?_
    exact g_zret F R rfl rfl rfl dX4_isCell_15 ⟨_, rfl, rfl, h⟩
  replace h := h.2 c2
  refine g_iconst (v := (1 : Int32)) F dX4_isCell_10 (by decide) ?_
  refine g_goto F dX4_isCell_11 (tgt := 15) (by decide) ?_
  exact g_zret F R rfl rfl rfl dX4_isCell_15 ⟨_, rfl, rfl, h⟩
theorem plX4_isCell : kPlain yX4_isCell 1 = true := by decide +kernel
theorem rX0_X4_isCell {z : kZ} {cc : ByteArray} {nL : Nat} {rm : Room} {c n pc : Nat} {lv : List (Nat × Value)} {st : List Value} {ws : va_W} {l0 : Int32} {Q : Int32 → Prop} (F : kF z cc RX0 nL rm) (hd : decode cc pc = .ok (.invokestatic 61, 3)) (hf : kFits rm 0 40 0 0 1 c n st = true) (h : wX4_isCell l0 Q) (k : ∀ v : Int32, Q v → kV z ws c n (pc + 3) lv (.int v :: st)) : kV z ws c n pc lv (.int l0 :: st) := g_callSN F (av := [.int l0]) (ctX4_isCell _ _ _ ws h) F.2.2.2.2.2.2.2.1.1.2 wq288 wq109 wq289 plX4_isCell hd hf (fun r ws' hq => by
    obtain ⟨v, rfl, rfl, hq⟩ := hq
    exact k v hq)
set_option maxRecDepth 20000 in
theorem sX0_has_26 {z : kZ} {a : Nat → Nat} {tx : List kTxt} {E : va_W} {b : Nat} {Q : Int32 → kS → Prop} {l1 : Int32} {l2 : Int32} {σ : kS} (F : kF z cX0_has RX0 3 { frames := 1, cells := 0, slots := 0, locals := 60 }) (R : kR z (some .boolean) 0 0 (kPi (xW (zg z) a tx E) Q)) (hb : isFen b) (h : wX0_has_26 b Q l1 l2 σ) : kV z (xW (zg z) a tx E σ) 0 0 26 [(0, .ref (a b)), (1, .int l1), (2, .int l2)] [] := by
  unfold wX0_has_26 at h
  refine g_iload_n F dX0_has_26 1 rfl ?_
  refine g_iconst (v := (5 : Int32)) F dX0_has_27 (by decide) ?_
  refine g_icmp_lt F dX0_has_28 (tgt := 53) (by decide) (fun c6 => ?_) (fun c6 => ?_)
  · replace h := h.1 c6
    refine g_iconst (v := (0 : Int32)) F dX0_has_53 (by decide) ?_
    exact g_zret F R rfl rfl rfl dX0_has_54 ⟨_, _, rfl, rfl, h⟩
  replace h := h.2 c6
  refine g_iload_n F dX0_has_31 1 rfl ?_
  refine g_bipush (v := (10 : Int32)) F dX0_has_32 (by decide) ?_
  refine g_icmp_gt F dX0_has_34 (tgt := 53) (by decide) (fun c7 => ?_) (fun c7 => ?_)
  · replace h := h.1 c7
    refine g_iconst (v := (0 : Int32)) F dX0_has_53 (by decide) ?_
    exact g_zret F R rfl rfl rfl dX0_has_54 ⟨_, _, rfl, rfl, h⟩
  replace h := h.2 c7
  refine g_iload_n F dX0_has_37 2 rfl ?_
  refine g_if_lt F dX0_has_38 (tgt := 53) (by decide) (fun c8 => ?_) (fun c8 => ?_)
  · replace h := h.1 c8
    refine g_iconst (v := (0 : Int32)) F dX0_has_53 (by decide) ?_
    exact g_zret F R rfl rfl rfl dX0_has_54 ⟨_, _, rfl, rfl, h⟩
  replace h := h.2 c8
  refine g_iload_n F dX0_has_41 2 rfl ?_
  refine g_aload_n F dX0_has_42 0 rfl ?_
  refine rgX0_X0_works hb F dX0_has_43 ?_
  refine g_icmp_ge F dX0_has_46 (tgt := 53) (by decide) (fun c9 => ?_) (fun c9 => ?_)
  · replace h := h.1 c9
    refine g_iconst (v := (0 : Int32)) F dX0_has_53 (by decide) ?_
    exact g_zret F R rfl rfl rfl dX0_has_54 ⟨_, _, rfl, rfl, h⟩
  replace h := h.2 c9
  refine g_iconst (v := (1 : Int32)) F dX0_has_49 (by decide) ?_
  refine g_goto F dX0_has_50 (tgt := 54) (by decide) ?_
  exact g_zret F R rfl rfl rfl dX0_has_54 ⟨_, _, rfl, rfl, h⟩
set_option maxRecDepth 20000 in
theorem ctX0_has (l : Launch) (g : kG) (A : Nat → Prop) (a : Nat → Nat) (tx : List kTxt) (E : va_W) {b : Nat} (hb : isFen b) {l1 : Int32} {l2 : Int32} {σ : kS} {Q : Int32 → kS → Prop} (h : wX0_has b l1 l2 σ Q) : kCt l yX0_has cX0_has 3 (some .boolean) 1 60 0 0 g A [.ref (a b), .int l1, .int l2] (xW g a tx E σ) (kPi (xW g a tx E) Q) := by
  refine kCt.of (lv0 := [(0, .ref (a b)), (1, .int l1), (2, .int l2)]) (by decide +kernel) (Nat.le_of_ble_eq_true rfl) rfl (fun z hl hg hA F R => ?_)
  subst hl hg hA
  have F : kF z cX0_has RX0 3 { frames := 1, cells := 0, slots := 0, locals := 60 } := F
  unfold wX0_has at h
  refine g_iload_n F dX0_has_0 1 rfl ?_
  refine g_if_eq F dX0_has_1 (tgt := 9) (by decide) (fun c1 => ?_) (fun c1 => ?_)
  · replace h := h.1 c1
    refine g_iconst (v := (1 : Int32)) F dX0_has_9 (by decide) ?_
    exact g_zret F R rfl rfl rfl dX0_has_10 ⟨_, _, rfl, rfl, h⟩
  replace h := h.2 c1
  refine g_iload_n F dX0_has_4 1 rfl ?_
  refine g_iconst (v := (1 : Int32)) F dX0_has_5 (by decide) ?_
  refine g_icmp_ne F dX0_has_6 (tgt := 11) (by decide) (fun c2 => ?_) (fun c2 => ?_)
  · replace h := h.1 c2
    refine g_iload_n F dX0_has_11 1 rfl ?_
    refine g_iconst (v := (2 : Int32)) F dX0_has_12 (by decide) ?_
    refine g_icmp_lt F dX0_has_13 (tgt := 26) (by decide) (fun c3 => ?_) (fun c3 => ?_)
    · replace h := h.1 c3
      exact (sX0_has_26 F R hb h)
    replace h := h.2 c3
    refine g_iload_n F dX0_has_16 1 rfl ?_
    refine g_iconst (v := (4 : Int32)) F dX0_has_17 (by decide) ?_
    refine g_icmp_gt F dX0_has_18 (tgt := 26) (by decide) (fun c4 => ?_) (fun c4 => ?_)
    · replace h := h.1 c4
      exact (sX0_has_26 F R hb h)
    replace h := h.2 c4
    refine g_iload_n F dX0_has_21 2 rfl ?_
    refine rX0_X4_isCell F dX0_has_22 rfl h (fun r5 h => ?_)
    obtain ⟨hz, h⟩ := h
    exact g_zret F R (kBool hz) rfl rfl dX0_has_25 ⟨_, _, rfl, rfl, h⟩
  replace h := h.2 c2
  refine g_iconst (v := (1 : Int32)) F dX0_has_9 (by decide) ?_
  exact g_zret F R rfl rfl rfl dX0_has_10 ⟨_, _, rfl, rfl, h⟩
set_option maxRecDepth 20000 in
theorem ctX0_rowOf (l : Launch) (g : kG) (A : Nat → Prop) (a : Nat → Nat) (tx : List kTxt) (E : va_W) {b : Nat} (hb : isFen b) {l1 : Int32} {σ : kS} {Q : Nat → Nat → kS → Prop} (h : wX0_rowOf b l1 σ Q) : kCt l yX0_rowOf cX0_rowOf 2 (some (.array .int)) 0 40 0 0 g A [.ref (a b), .int l1] (xW g a tx E σ) (kPa (xW g a tx E) g a Q) := by
  refine kCt.of (lv0 := [(0, .ref (a b)), (1, .int l1)]) (by decide +kernel) (Nat.le_of_ble_eq_true rfl) rfl (fun z hl hg hA F R => ?_)
  subst hl hg hA
  have F : kF z cX0_rowOf RX0 2 { frames := 0, cells := 0, slots := 0, locals := 40 } := F
  unfold wX0_rowOf at h
  refine g_iload_n F dX0_rowOf_0 1 rfl ?_
  by_cases c1 : l1 = (2 : Int32)
  · replace h := h.1 c1
    refine g_tableIn F dX0_rowOf_1 (2 : Int32) c1 (off := 39) (tgt := 40) (by decide) (by decide) ?_
    refine g_aload_n F dX0_rowOf_40 0 rfl ?_
    refine rgX0_X0_height hb F dX0_rowOf_41 ?_
    exact g_aret F R (Or.inr ⟨_, rfl⟩) (Or.inr ⟨_, rfl⟩) (Nat.le_refl 0) (Nat.le_refl 0) dX0_rowOf_44 ⟨(b + 1), 12, _, rfl, (xAF1 hb), rfl, h⟩
  replace h := h.2
  by_cases c2 : l1 = (3 : Int32)
  · replace h := h.1 c2
    refine g_tableIn F dX0_rowOf_1 (3 : Int32) c2 (off := 44) (tgt := 45) (by decide) (by decide) ?_
    refine g_aload_n F dX0_rowOf_45 0 rfl ?_
    refine rgX0_X0_peat hb F dX0_rowOf_46 ?_
    exact g_aret F R (Or.inr ⟨_, rfl⟩) (Or.inr ⟨_, rfl⟩) (Nat.le_refl 0) (Nat.le_refl 0) dX0_rowOf_49 ⟨(b + 2), 12, _, rfl, (xAF2 hb), rfl, h⟩
  replace h := h.2
  by_cases c3 : l1 = (4 : Int32)
  · replace h := h.1 c3
    refine g_tableIn F dX0_rowOf_1 (4 : Int32) c3 (off := 49) (tgt := 50) (by decide) (by decide) ?_
    refine g_aload_n F dX0_rowOf_50 0 rfl ?_
    refine rgX0_X0_water hb F dX0_rowOf_51 ?_
    exact g_aret F R (Or.inr ⟨_, rfl⟩) (Or.inr ⟨_, rfl⟩) (Nat.le_refl 0) (Nat.le_refl 0) dX0_rowOf_54 ⟨(b + 3), 12, _, rfl, (xAF3 hb), rfl, h⟩
  replace h := h.2
  by_cases c4 : l1 = (5 : Int32)
  · replace h := h.1 c4
    refine g_tableIn F dX0_rowOf_1 (5 : Int32) c4 (off := 54) (tgt := 55) (by decide) (by decide) ?_
    refine g_aload_n F dX0_rowOf_55 0 rfl ?_
    refine rgX0_X0_number hb F dX0_rowOf_56 ?_
    exact g_aret F R (Or.inr ⟨_, rfl⟩) (Or.inr ⟨_, rfl⟩) (Nat.le_refl 0) (Nat.le_refl 0) dX0_rowOf_59 ⟨(b + 5), 6, _, rfl, (xAF5 hb), rfl, h⟩
  replace h := h.2
  by_cases c5 : l1 = (6 : Int32)
  · replace h := h.1 c5
    refine g_tableIn F dX0_rowOf_1 (6 : Int32) c5 (off := 59) (tgt := 60) (by decide) (by decide) ?_
    refine g_aload_n F dX0_rowOf_60 0 rfl ?_
    refine rgX0_X0_place hb F dX0_rowOf_61 ?_
    exact g_aret F R (Or.inr ⟨_, rfl⟩) (Or.inr ⟨_, rfl⟩) (Nat.le_refl 0) (Nat.le_refl 0) dX0_rowOf_64 ⟨(b + 6), 6, _, rfl, (xAF6 hb), rfl, h⟩
  replace h := h.2
  by_cases c6 : l1 = (7 : Int32)
  · replace h := h.1 c6
    refine g_tableIn F dX0_rowOf_1 (7 : Int32) c6 (off := 64) (tgt := 65) (by decide) (by decide) ?_
    refine g_aload_n F dX0_rowOf_65 0 rfl ?_
    refine rgX0_X0_going hb F dX0_rowOf_66 ?_
    exact g_aret F R (Or.inr ⟨_, rfl⟩) (Or.inr ⟨_, rfl⟩) (Nat.le_refl 0) (Nat.le_refl 0) dX0_rowOf_69 ⟨(b + 7), 6, _, rfl, (xAF7 hb), rfl, h⟩
  replace h := h.2
  replace h := h c1 c2 c3 c4 c5 c6
  refine g_tableOut F dX0_rowOf_1 6 (by decide) (lt_s (lt_s (lt_s (lt_s (lt_s (lt_s (lt_0) c1) c2) c3) c4) c5) c6) (tgt := 70) (by decide) ?_
  refine g_aload_n F dX0_rowOf_70 0 rfl ?_
  refine rgX0_X0_kind hb F dX0_rowOf_71 ?_
  exact g_aret F R (Or.inr ⟨_, rfl⟩) (Or.inr ⟨_, rfl⟩) (Nat.le_refl 0) (Nat.le_refl 0) dX0_rowOf_74 ⟨(b + 4), 6, _, rfl, (xAF4 hb), rfl, h⟩
theorem plX0_rowOf : kPlain yX0_rowOf 1 = true := by decide +kernel
theorem rX0_X0_rowOf {z : kZ} {cc : ByteArray} {nL : Nat} {rm : Room} {c n pc : Nat} {lv : List (Nat × Value)} {st : List Value} {a : Nat → Nat} {tx : List kTxt} {E : va_W} {σ : kS} {b : Nat} {l1 : Int32} {Q : Nat → Nat → kS → Prop} (F : kF z cc RX0 nL rm) (hb : isFen b) (hd : decode cc pc = .ok (.invokevirtual 65, 3)) (hf : kFits rm 0 40 0 0 2 c n st = true) (h : wX0_rowOf b l1 σ Q) (k : ∀ (q m : Nat), kArr (xW (zg z) a tx E) (zg z) (a q) q m 0 → ∀ σ' : kS, Q q m σ' → kV z (xW (zg z) a tx E σ') c n (pc + 3) lv (.ref (a q) :: st)) : kV z (xW (zg z) a tx E σ) c n pc lv (.int l1 :: .ref (a b) :: st) := by
  exact g_callV F (av := [.int l1]) (ctX0_rowOf _ _ _ a tx E hb h) (ci := 0) (q0 := b) rfl (xFen_at hb) rfl wq299 wq301 wq0 wq110 wq302 plX0_rowOf hd hf (fun r ws' hq => by
    obtain ⟨q, m, σ', rfl, ha, rfl, hq⟩ := hq
    exact k q m ha σ' hq)
set_option maxRecDepth 20000 in
theorem ctX0_get (l : Launch) (g : kG) (A : Nat → Prop) (a : Nat → Nat) (tx : List kTxt) (E : va_W) {b : Nat} (hb : isFen b) {l1 : Int32} {l2 : Int32} {σ : kS} {Q : Int32 → kS → Prop} (h : wX0_get b l1 l2 σ Q) : kCt l yX0_get cX0_get 4 (some .int) 1 61 0 0 g A [.ref (a b), .int l1, .int l2] (xW g a tx E σ) (kPi (xW g a tx E) Q) := by
  refine kCt.of (lv0 := [(0, .ref (a b)), (1, .int l1), (2, .int l2)]) (by decide +kernel) (Nat.le_of_ble_eq_true rfl) rfl (fun z hl hg hA F R => ?_)
  subst hl hg hA
  have F : kF z cX0_get RX0 4 { frames := 1, cells := 0, slots := 0, locals := 61 } := F
  unfold wX0_get at h
  refine g_iload_n F dX0_get_0 1 rfl ?_
  by_cases c1 : l1 = (0 : Int32)
  · replace h := h.1 c1
    refine g_lookup F dX0_get_1 (by decide) (off := 35) (by rw [c1]; decide) (tgt := 36) (by decide) ?_
    refine g_aload_n F dX0_get_36 0 rfl ?_
    refine rgX0_X0_river hb F dX0_get_37 ?_
    exact g_iret F R rfl rfl dX0_get_40 ⟨_, _, rfl, rfl, h⟩
  replace h := h.2
  by_cases c2 : l1 = (1 : Int32)
  · replace h := h.1 c2
    refine g_lookup F dX0_get_1 (by decide) (off := 40) (by rw [c2]; decide) (tgt := 41) (by decide) ?_
    refine g_aload_n F dX0_get_41 0 rfl ?_
    refine rgX0_X0_year hb F dX0_get_42 ?_
    exact g_iret F R rfl rfl dX0_get_45 ⟨_, _, rfl, rfl, h⟩
  replace h := h.2
  by_cases c3 : l1 = (11 : Int32)
  · replace h := h.1 c3
    refine g_lookup F dX0_get_1 (by decide) (off := 45) (by rw [c3]; decide) (tgt := 46) (by decide) ?_
    refine g_aload_n F dX0_get_46 0 rfl ?_
    refine rgX0_X0_rule hb F dX0_get_47 ?_
    exact g_iret F R rfl rfl dX0_get_50 ⟨_, _, rfl, rfl, h⟩
  replace h := h.2
  replace h := h c1 c2 c3
  refine g_lookup F dX0_get_1 (by decide) (off := 50) (kLook (by decide) c1 (kLook (by decide) c2 (kLook (by decide) c3 (kLook0)))) (tgt := 51) (by decide) ?_
  refine g_aload_n F dX0_get_51 0 rfl ?_
  refine g_iload_n F dX0_get_52 1 rfl ?_
  refine rX0_X0_rowOf F hb dX0_get_53 rfl h (fun r5 n6 hr5 s4 h => ?_)
  refine g_astore_n (lv' := [(3, .ref (a r5)), (0, .ref (a b)), (1, .int l1), (2, .int l2)]) F dX0_get_56 rfl rfl ?_
  refine g_iload_n F dX0_get_57 3 rfl ?_
  refine g_if_lt F dX0_get_58 (tgt := 73) (by decide) (fun c7 => ?_) (fun c7 => ?_)
  · replace h := h.1 c7
    refine g_iconst (v := (0 : Int32)) F dX0_get_73 (by decide) ?_
    exact g_iret F R rfl rfl dX0_get_74 ⟨_, _, rfl, rfl, h⟩
  replace h := h.2 c7
  refine g_iload_n F dX0_get_61 3 rfl ?_
  refine g_aload_n F dX0_get_62 0 rfl ?_
  refine g_len (wf := xW (zg z) a tx E) F hr5 dX0_get_63 ?_
  refine g_icmp_ge F dX0_get_64 (tgt := 73) (by decide) (fun c8 => ?_) (fun c8 => ?_)
  · replace h := h.1 c8
    refine g_iconst (v := (0 : Int32)) F dX0_get_73 (by decide) ?_
    exact g_iret F R rfl rfl dX0_get_74 ⟨_, _, rfl, rfl, h⟩
  replace h := h.2 c8
  refine g_aload_n F dX0_get_67 0 rfl ?_
  refine g_iload_n F dX0_get_68 3 rfl ?_
  obtain ⟨hc, h⟩ := h
  refine g_iald (wf := xW (zg z) a tx E) F hr5 hc dX0_get_69 ?_
  refine g_goto F dX0_get_70 (tgt := 74) (by decide) ?_
  exact g_iret F R rfl rfl dX0_get_74 ⟨_, _, rfl, rfl, h⟩
set_option maxRecDepth 20000 in
theorem ctX0_put (l : Launch) (g : kG) (A : Nat → Prop) (a : Nat → Nat) (tx : List kTxt) (E : va_W) {b : Nat} (hb : isFen b) {l1 : Int32} {l2 : Int32} {l3 : Int32} {σ : kS} {Q : kS → Prop} (h : wX0_put b l1 l2 l3 σ Q) : kCt l yX0_put cX0_put 5 none 1 61 0 0 g A [.ref (a b), .int l1, .int l2, .int l3] (xW g a tx E σ) (kPv (xW g a tx E) Q) := by
  refine kCt.of (lv0 := [(0, .ref (a b)), (1, .int l1), (2, .int l2), (3, .int l3)]) (by decide +kernel) (Nat.le_of_ble_eq_true rfl) rfl (fun z hl hg hA F R => ?_)
  subst hl hg hA
  have F : kF z cX0_put RX0 5 { frames := 1, cells := 0, slots := 0, locals := 61 } := F
  unfold wX0_put at h
  refine g_iload_n F dX0_put_0 1 rfl ?_
  by_cases c1 : l1 = (0 : Int32)
  · replace h := h.1 c1
    refine g_lookup F dX0_put_1 (by decide) (off := 35) (by rw [c1]; decide) (tgt := 36) (by decide) ?_
    refine g_aload_n F dX0_put_36 0 rfl ?_
    refine g_iload_n F dX0_put_37 3 rfl ?_
    refine rpX0_X0_river hb F dX0_put_38 ?_
    refine g_name (wf := xW (zg z) a tx E) (fun s2 es2 => ?_)
    replace h := h s2 es2
    refine g_goto F dX0_put_41 (tgt := 83) (by decide) ?_
    exact g_vret F R rfl rfl dX0_put_83 ⟨_, rfl, rfl, h⟩
  replace h := h.2
  by_cases c3 : l1 = (1 : Int32)
  · replace h := h.1 c3
    refine g_lookup F dX0_put_1 (by decide) (off := 43) (by rw [c3]; decide) (tgt := 44) (by decide) ?_
    refine g_aload_n F dX0_put_44 0 rfl ?_
    refine g_iload_n F dX0_put_45 3 rfl ?_
    refine rpX0_X0_year hb F dX0_put_46 ?_
    refine g_name (wf := xW (zg z) a tx E) (fun s4 es4 => ?_)
    replace h := h s4 es4
    refine g_goto F dX0_put_49 (tgt := 83) (by decide) ?_
    exact g_vret F R rfl rfl dX0_put_83 ⟨_, rfl, rfl, h⟩
  replace h := h.2
  by_cases c5 : l1 = (11 : Int32)
  · replace h := h.1 c5
    refine g_lookup F dX0_put_1 (by decide) (off := 51) (by rw [c5]; decide) (tgt := 52) (by decide) ?_
    refine g_aload_n F dX0_put_52 0 rfl ?_
    refine g_iload_n F dX0_put_53 3 rfl ?_
    refine rpX0_X0_rule hb F dX0_put_54 ?_
    refine g_name (wf := xW (zg z) a tx E) (fun s6 es6 => ?_)
    replace h := h s6 es6
    refine g_goto F dX0_put_57 (tgt := 83) (by decide) ?_
    exact g_vret F R rfl rfl dX0_put_83 ⟨_, rfl, rfl, h⟩
  replace h := h.2
  replace h := h c1 c3 c5
  refine g_lookup F dX0_put_1 (by decide) (off := 59) (kLook (by decide) c1 (kLook (by decide) c3 (kLook (by decide) c5 (kLook0)))) (tgt := 60) (by decide) ?_
  refine g_aload_n F dX0_put_60 0 rfl ?_
  refine g_iload_n F dX0_put_61 1 rfl ?_
  refine rX0_X0_rowOf F hb dX0_put_62 rfl h (fun r8 n9 hr8 s7 h => ?_)
  refine g_astore (lv' := [(4, .ref (a r8)), (0, .ref (a b)), (1, .int l1), (2, .int l2), (3, .int l3)]) F dX0_put_65 rfl rfl ?_
  refine g_iload_n F dX0_put_67 3 rfl ?_
  refine g_if_lt F dX0_put_68 (tgt := 83) (by decide) (fun c10 => ?_) (fun c10 => ?_)
  · replace h := h.1 c10
    exact g_vret F R rfl rfl dX0_put_83 ⟨_, rfl, rfl, h⟩
  replace h := h.2 c10
  refine g_iload_n F dX0_put_71 3 rfl ?_
  refine g_aload F dX0_put_72 0 rfl ?_
  refine g_len (wf := xW (zg z) a tx E) F hr8 dX0_put_74 ?_
  refine g_icmp_ge F dX0_put_75 (tgt := 83) (by decide) (fun c11 => ?_) (fun c11 => ?_)
  · replace h := h.1 c11
    exact g_vret F R rfl rfl dX0_put_83 ⟨_, rfl, rfl, h⟩
  replace h := h.2 c11
  refine g_aload F dX0_put_78 0 rfl ?_
  refine g_iload_n F dX0_put_80 3 rfl ?_
  refine g_iload_n F dX0_put_81 4 rfl ?_
  obtain ⟨hc, h⟩ := h
  refine g_iast (wf := xW (zg z) a tx E) F hr8 hc dX0_put_82 ?_
  refine g_name (wf := xW (zg z) a tx E) (fun s12 es12 => ?_)
  replace h := h s12 es12
  exact g_vret F R rfl rfl dX0_put_83 ⟨_, rfl, rfl, h⟩
set_option maxRecDepth 20000 in
theorem ctX0_goes (l : Launch) (g : kG) (A : Nat → Prop) (a : Nat → Nat) (tx : List kTxt) (E : va_W) {b : Nat} (hb : isFen b) {l1 : Int32} {σ : kS} {Q : Int32 → kS → Prop} (h : wX0_goes b l1 σ Q) : kCt l yX0_goes cX0_goes 2 (some .boolean) 0 40 0 0 g A [.ref (a b), .int l1] (xW g a tx E σ) (kPi (xW g a tx E) Q) := by
  refine kCt.of (lv0 := [(0, .ref (a b)), (1, .int l1)]) (by decide +kernel) (Nat.le_of_ble_eq_true rfl) rfl (fun z hl hg hA F R => ?_)
  subst hl hg hA
  have F : kF z cX0_goes RX0 2 { frames := 0, cells := 0, slots := 0, locals := 40 } := F
  unfold wX0_goes at h
  refine g_iload_n F dX0_goes_0 1 rfl ?_
  refine g_if_lt F dX0_goes_1 (tgt := 26) (by decide) (fun c1 => ?_) (fun c1 => ?_)
  · replace h := h.1 c1
    refine g_iconst (v := (0 : Int32)) F dX0_goes_26 (by decide) ?_
    exact g_zret F R rfl rfl rfl dX0_goes_27 ⟨_, _, rfl, rfl, h⟩
  replace h := h.2 c1
  refine g_iload_n F dX0_goes_4 1 rfl ?_
  refine g_aload_n F dX0_goes_5 0 rfl ?_
  refine rgX0_X0_works hb F dX0_goes_6 ?_
  refine g_icmp_ge F dX0_goes_9 (tgt := 26) (by decide) (fun c2 => ?_) (fun c2 => ?_)
  · replace h := h.1 c2
    refine g_iconst (v := (0 : Int32)) F dX0_goes_26 (by decide) ?_
    exact g_zret F R rfl rfl rfl dX0_goes_27 ⟨_, _, rfl, rfl, h⟩
  replace h := h.2 c2
  refine g_aload_n F dX0_goes_12 0 rfl ?_
  refine rgX0_X0_going hb F dX0_goes_13 ?_
  refine g_iload_n F dX0_goes_16 1 rfl ?_
  obtain ⟨hc, h⟩ := h
  refine g_iald (wf := xW (zg z) a tx E) F (xAF7 hb) hc dX0_goes_17 ?_
  refine g_iconst (v := (1 : Int32)) F dX0_goes_18 (by decide) ?_
  refine g_icmp_ne F dX0_goes_19 (tgt := 26) (by decide) (fun c3 => ?_) (fun c3 => ?_)
  · replace h := h.1 c3
    refine g_iconst (v := (0 : Int32)) F dX0_goes_26 (by decide) ?_
    exact g_zret F R rfl rfl rfl dX0_goes_27 ⟨_, _, rfl, rfl, h⟩
  replace h := h.2 c3
  refine g_iconst (v := (1 : Int32)) F dX0_goes_22 (by decide) ?_
  refine g_goto F dX0_goes_23 (tgt := 27) (by decide) ?_
  exact g_zret F R rfl rfl rfl dX0_goes_27 ⟨_, _, rfl, rfl, h⟩
theorem plX0_goes : kPlain yX0_goes 1 = true := by decide +kernel
theorem rX0_X0_goes {z : kZ} {cc : ByteArray} {nL : Nat} {rm : Room} {c n pc : Nat} {lv : List (Nat × Value)} {st : List Value} {a : Nat → Nat} {tx : List kTxt} {E : va_W} {σ : kS} {b : Nat} {l1 : Int32} {Q : Int32 → kS → Prop} (F : kF z cc RX0 nL rm) (hb : isFen b) (hd : decode cc pc = .ok (.invokevirtual 69, 3)) (hf : kFits rm 0 40 0 0 2 c n st = true) (h : wX0_goes b l1 σ Q) (k : ∀ (v : Int32) (σ' : kS), Q v σ' → kV z (xW (zg z) a tx E σ') c n (pc + 3) lv (.int v :: st)) : kV z (xW (zg z) a tx E σ) c n pc lv (.int l1 :: .ref (a b) :: st) := by
  exact g_callV F (av := [.int l1]) (ctX0_goes _ _ _ a tx E hb h) (ci := 0) (q0 := b) rfl (xFen_at hb) rfl wq552 wq553 wq554 wq110 wq555 plX0_goes hd hf (fun r ws' hq => by
    obtain ⟨v, σ', rfl, rfl, hq⟩ := hq
    exact k v σ' hq)
set_option maxRecDepth 20000 in
theorem sX0_goingWorks_4 {z : kZ} {a : Nat → Nat} {tx : List kTxt} {E : va_W} {b : Nat} {Q : Int32 → kS → Prop} {l1 : Int32} {l2 : Int32} {σ : kS} (F : kF z cX0_goingWorks RX0 3 { frames := 1, cells := 0, slots := 0, locals := 61 }) (R : kR z (some .int) 0 0 (kPi (xW (zg z) a tx E) Q)) (hb : isFen b) (h : wX0_goingWorks_4 b Q l1 l2 σ) : kV z (xW (zg z) a tx E σ) 0 0 4 [(0, .ref (a b)), (1, .int l1), (2, .int l2)] [] := by
  unfold wX0_goingWorks_4 at h
  refine h (fun σ l1 l2 => kV z (xW (zg z) a tx E σ) 0 0 4 [(0, .ref (a b)), (1, .int l1), (2, .int l2)] []) (fun σ l1 l2 h => ?_)
  refine g_iload_n F dX0_goingWorks_4 2 rfl ?_
  refine g_bipush (v := (6 : Int32)) F dX0_goingWorks_5 (by decide) ?_
  refine g_icmp_ge F dX0_goingWorks_7 (tgt := 27) (by decide) (fun c1 => ?_) (fun c1 => ?_)
  · replace h := h.1 c1
    refine g_iload_n F dX0_goingWorks_27 1 rfl ?_
    exact g_iret F R rfl rfl dX0_goingWorks_28 ⟨_, _, rfl, rfl, h⟩
  replace h := h.2 c1
  refine g_aload_n F dX0_goingWorks_10 0 rfl ?_
  refine g_iload_n F dX0_goingWorks_11 2 rfl ?_
  refine rX0_X0_goes F hb dX0_goingWorks_12 rfl h (fun r3 s2 h => ?_)
  refine g_if_eq F dX0_goingWorks_15 (tgt := 21) (by decide) (fun c4 => ?_) (fun c4 => ?_)
  · replace h := h.1 c4
    obtain ⟨x5, ex5⟩ : ∃ q : Int32, q = l2 + (1 : Int32) := ⟨_, rfl⟩
    replace h := h x5 ex5
    refine g_iinc (lv' := [(2, .int x5), (0, .ref (a b)), (1, .int l1)]) (d := (1 : Int32)) F dX0_goingWorks_21 rfl 2 rfl (by decide) ex5.symm rfl ?_
    refine g_goto F dX0_goingWorks_24 (tgt := 4) (by decide) ?_
    exact (g_sub [1, 2, 0] rfl h)
  replace h := h.2 c4
  obtain ⟨x6, ex6⟩ : ∃ q : Int32, q = l1 + (1 : Int32) := ⟨_, rfl⟩
  replace h := h x6 ex6
  refine g_iinc (lv' := [(1, .int x6), (0, .ref (a b)), (2, .int l2)]) (d := (1 : Int32)) F dX0_goingWorks_18 rfl 1 rfl (by decide) ex6.symm rfl ?_
  obtain ⟨x7, ex7⟩ : ∃ q : Int32, q = l2 + (1 : Int32) := ⟨_, rfl⟩
  replace h := h x7 ex7
  refine g_iinc (lv' := [(2, .int x7), (1, .int x6), (0, .ref (a b))]) (d := (1 : Int32)) F dX0_goingWorks_21 rfl 2 rfl (by decide) ex7.symm rfl ?_
  refine g_goto F dX0_goingWorks_24 (tgt := 4) (by decide) ?_
  exact (g_sub [2, 1, 0] rfl h)
set_option maxRecDepth 20000 in
theorem ctX0_goingWorks (l : Launch) (g : kG) (A : Nat → Prop) (a : Nat → Nat) (tx : List kTxt) (E : va_W) {b : Nat} (hb : isFen b) {σ : kS} {Q : Int32 → kS → Prop} (h : wX0_goingWorks b σ Q) : kCt l yX0_goingWorks cX0_goingWorks 3 (some .int) 1 61 0 0 g A [.ref (a b)] (xW g a tx E σ) (kPi (xW g a tx E) Q) := by
  refine kCt.of (lv0 := [(0, .ref (a b))]) (by decide +kernel) (Nat.le_of_ble_eq_true rfl) rfl (fun z hl hg hA F R => ?_)
  subst hl hg hA
  have F : kF z cX0_goingWorks RX0 3 { frames := 1, cells := 0, slots := 0, locals := 61 } := F
  unfold wX0_goingWorks at h
  refine g_iconst (v := (0 : Int32)) F dX0_goingWorks_0 (by decide) ?_
  refine g_istore_n (lv' := [(1, .int (0 : Int32)), (0, .ref (a b))]) F dX0_goingWorks_1 rfl rfl ?_
  refine g_iconst (v := (0 : Int32)) F dX0_goingWorks_2 (by decide) ?_
  refine g_istore_n (lv' := [(2, .int (0 : Int32)), (1, .int (0 : Int32)), (0, .ref (a b))]) F dX0_goingWorks_3 rfl rfl ?_
  exact g_sub [2, 1, 0] rfl (sX0_goingWorks_4 F R hb h)
set_option maxRecDepth 20000 in
theorem sX0_dryCells_4 {z : kZ} {a : Nat → Nat} {tx : List kTxt} {E : va_W} {b : Nat} {Q : Int32 → kS → Prop} {l1 : Int32} {l2 : Int32} {σ : kS} (F : kF z cX0_dryCells RX0 3 { frames := 0, cells := 0, slots := 0, locals := 40 }) (R : kR z (some .int) 0 0 (kPi (xW (zg z) a tx E) Q)) (hb : isFen b) (h : wX0_dryCells_4 b Q l1 l2 σ) : kV z (xW (zg z) a tx E σ) 0 0 4 [(0, .ref (a b)), (1, .int l1), (2, .int l2)] [] := by
  unfold wX0_dryCells_4 at h
  refine h (fun l1 l2 => kV z (xW (zg z) a tx E σ) 0 0 4 [(0, .ref (a b)), (1, .int l1), (2, .int l2)] []) (fun l1 l2 h => ?_)
  refine g_iload_n F dX0_dryCells_4 2 rfl ?_
  refine g_bipush (v := (12 : Int32)) F dX0_dryCells_5 (by decide) ?_
  refine g_icmp_ge F dX0_dryCells_7 (tgt := 31) (by decide) (fun c1 => ?_) (fun c1 => ?_)
  · replace h := h.1 c1
    refine g_iload_n F dX0_dryCells_31 1 rfl ?_
    exact g_iret F R rfl rfl dX0_dryCells_32 ⟨_, _, rfl, rfl, h⟩
  replace h := h.2 c1
  refine g_aload_n F dX0_dryCells_10 0 rfl ?_
  refine rgX0_X0_water hb F dX0_dryCells_11 ?_
  refine g_iload_n F dX0_dryCells_14 2 rfl ?_
  obtain ⟨hc, h⟩ := h
  refine g_iald (wf := xW (zg z) a tx E) F (xAF3 hb) hc dX0_dryCells_15 ?_
  refine g_if_ne F dX0_dryCells_16 (tgt := 25) (by decide) (fun c2 => ?_) (fun c2 => ?_)
  · replace h := h.1 c2
    obtain ⟨x3, ex3⟩ : ∃ q : Int32, q = l2 + (1 : Int32) := ⟨_, rfl⟩
    replace h := h x3 ex3
    refine g_iinc (lv' := [(2, .int x3), (0, .ref (a b)), (1, .int l1)]) (d := (1 : Int32)) F dX0_dryCells_25 rfl 2 rfl (by decide) ex3.symm rfl ?_
    refine g_goto F dX0_dryCells_28 (tgt := 4) (by decide) ?_
    exact (g_sub [1, 2, 0] rfl h)
  replace h := h.2 c2
  refine g_iload_n F dX0_dryCells_19 1 rfl ?_
  refine g_iconst (v := (1 : Int32)) F dX0_dryCells_20 (by decide) ?_
  refine g_iload_n F dX0_dryCells_21 2 rfl ?_
  refine g_ishl F dX0_dryCells_22 ?_
  refine g_ior F dX0_dryCells_23 ?_
  refine g_topi (fun x4 ex4 => ?_)
  replace h := h x4 ex4
  refine g_istore_n (lv' := [(1, .int x4), (0, .ref (a b)), (2, .int l2)]) F dX0_dryCells_24 rfl rfl ?_
  obtain ⟨x5, ex5⟩ : ∃ q : Int32, q = l2 + (1 : Int32) := ⟨_, rfl⟩
  replace h := h x5 ex5
  refine g_iinc (lv' := [(2, .int x5), (1, .int x4), (0, .ref (a b))]) (d := (1 : Int32)) F dX0_dryCells_25 rfl 2 rfl (by decide) ex5.symm rfl ?_
  refine g_goto F dX0_dryCells_28 (tgt := 4) (by decide) ?_
  exact (g_sub [2, 1, 0] rfl h)
set_option maxRecDepth 20000 in
theorem ctX0_dryCells (l : Launch) (g : kG) (A : Nat → Prop) (a : Nat → Nat) (tx : List kTxt) (E : va_W) {b : Nat} (hb : isFen b) {σ : kS} {Q : Int32 → kS → Prop} (h : wX0_dryCells b σ Q) : kCt l yX0_dryCells cX0_dryCells 3 (some .int) 0 40 0 0 g A [.ref (a b)] (xW g a tx E σ) (kPi (xW g a tx E) Q) := by
  refine kCt.of (lv0 := [(0, .ref (a b))]) (by decide +kernel) (Nat.le_of_ble_eq_true rfl) rfl (fun z hl hg hA F R => ?_)
  subst hl hg hA
  have F : kF z cX0_dryCells RX0 3 { frames := 0, cells := 0, slots := 0, locals := 40 } := F
  unfold wX0_dryCells at h
  refine g_iconst (v := (0 : Int32)) F dX0_dryCells_0 (by decide) ?_
  refine g_istore_n (lv' := [(1, .int (0 : Int32)), (0, .ref (a b))]) F dX0_dryCells_1 rfl rfl ?_
  refine g_iconst (v := (0 : Int32)) F dX0_dryCells_2 (by decide) ?_
  refine g_istore_n (lv' := [(2, .int (0 : Int32)), (1, .int (0 : Int32)), (0, .ref (a b))]) F dX0_dryCells_3 rfl rfl ?_
  exact g_sub [2, 1, 0] rfl (sX0_dryCells_4 F R hb h)
set_option maxRecDepth 20000 in
theorem sX0_isUnder_4 {z : kZ} {ws : va_W}  {Q : Int32 → Prop} {l1 : Int32} {l2 : Int32} {l3 : Int32} (F : kF z cX0_isUnder RX0 4 { frames := 0, cells := 0, slots := 0, locals := 40 }) (R : kR z (some .boolean) 0 0 (kTi ws Q)) (h : wX0_isUnder_4 Q l1 l2 l3) : kV z ws 0 0 4 [(1, .int l1), (2, .int l2), (3, .int l3)] [] := by
  unfold wX0_isUnder_4 at h
  refine h (fun l2 l3 => kV z ws 0 0 4 [(1, .int l1), (2, .int l2), (3, .int l3)] []) (fun l2 l3 h => ?_)
  refine g_iload_n F dX0_isUnder_4 2 rfl ?_
  refine g_bipush (v := (6 : Int32)) F dX0_isUnder_5 (by decide) ?_
  refine g_icmp_ge F dX0_isUnder_7 (tgt := 41) (by decide) (fun c1 => ?_) (fun c1 => ?_)
  · replace h := h.1 c1
    refine g_iconst (v := (0 : Int32)) F dX0_isUnder_41 (by decide) ?_
    exact g_zret F R rfl rfl rfl dX0_isUnder_42 ⟨_, rfl, rfl, h⟩
  replace h := h.2 c1
  refine g_iload_n F dX0_isUnder_10 1 rfl ?_
  refine g_if_lt F dX0_isUnder_11 (tgt := 41) (by decide) (fun c2 => ?_) (fun c2 => ?_)
  · replace h := h.1 c2
    refine g_iconst (v := (0 : Int32)) F dX0_isUnder_41 (by decide) ?_
    exact g_zret F R rfl rfl rfl dX0_isUnder_42 ⟨_, rfl, rfl, h⟩
  replace h := h.2 c2
  refine g_iload_n F dX0_isUnder_14 1 rfl ?_
  refine g_gets F F.2.2.2.2.2.2.2.1.2.2.1.1 wq805 dX0_isUnder_15 ?_
  refine g_tlen (v := (6 : Int32)) F F.2.2.2.2.2.2.2.1.2.2.1.2 (by decide) dX0_isUnder_18 ?_
  refine g_icmp_ge F dX0_isUnder_19 (tgt := 41) (by decide) (fun c3 => ?_) (fun c3 => ?_)
  · replace h := h.1 c3
    refine g_iconst (v := (0 : Int32)) F dX0_isUnder_41 (by decide) ?_
    exact g_zret F R rfl rfl rfl dX0_isUnder_42 ⟨_, rfl, rfl, h⟩
  replace h := h.2 c3
  refine g_iload_n F dX0_isUnder_22 1 rfl ?_
  refine g_iload_n F dX0_isUnder_23 0 rfl ?_
  refine g_icmp_ne F dX0_isUnder_24 (tgt := 29) (by decide) (fun c4 => ?_) (fun c4 => ?_)
  · replace h := h.1 c4
    refine g_gets F F.2.2.2.2.2.2.2.1.2.2.1.1 wq805 dX0_isUnder_29 ?_
    refine g_iload_n F dX0_isUnder_32 1 rfl ?_
    obtain ⟨hc, h⟩ := h
    refine g_tald F F.2.2.2.2.2.2.2.1.2.2.1.2 hc dX0_isUnder_33 ?_
    refine g_topi (fun x5 ex5 => ?_)
    replace h := h x5 ex5
    refine g_istore_n (lv' := [(2, .int x5), (1, .int l1), (3, .int l3)]) F dX0_isUnder_34 rfl rfl ?_
    obtain ⟨x6, ex6⟩ : ∃ q : Int32, q = l3 + (1 : Int32) := ⟨_, rfl⟩
    replace h := h x6 ex6
    refine g_iinc (lv' := [(3, .int x6), (2, .int x5), (1, .int l1)]) (d := (1 : Int32)) F dX0_isUnder_35 rfl 2 rfl (by decide) ex6.symm rfl ?_
    refine g_goto F dX0_isUnder_38 (tgt := 4) (by decide) ?_
    exact (g_sub [2, 1, 0] rfl h)
  replace h := h.2 c4
  refine g_iconst (v := (1 : Int32)) F dX0_isUnder_27 (by decide) ?_
  exact g_zret F R rfl rfl rfl dX0_isUnder_28 ⟨_, rfl, rfl, h⟩
set_option maxRecDepth 20000 in
theorem ctX0_isUnder (l : Launch) (g : kG) (A : Nat → Prop) (ws : va_W) {l0 : Int32} {l1 : Int32} {Q : Int32 → Prop} (h : wX0_isUnder l0 l1 Q) : kCt l yX0_isUnder cX0_isUnder 4 (some .boolean) 0 40 0 0 g A [.int l0, .int l1] ws (kTi ws Q) := by
  refine kCt.of (lv0 := [(0, .int l0), (1, .int l1)]) (by decide +kernel) (Nat.le_of_ble_eq_true rfl) rfl (fun z hl hg hA F R => ?_)
  subst hl hg hA
  have F : kF z cX0_isUnder RX0 4 { frames := 0, cells := 0, slots := 0, locals := 40 } := F
  unfold wX0_isUnder at h
  refine g_iload_n F dX0_isUnder_0 0 rfl ?_
  refine g_istore_n (lv' := [(2, .int l0), (0, .int l0), (1, .int l1)]) F dX0_isUnder_1 rfl rfl ?_
  refine g_iconst (v := (0 : Int32)) F dX0_isUnder_2 (by decide) ?_
  refine g_istore_n (lv' := [(3, .int (0 : Int32)), (2, .int l0), (0, .int l0), (1, .int l1)]) F dX0_isUnder_3 rfl rfl ?_
  exact g_sub [3, 1, 0] rfl (sX0_isUnder_4 F R h)
set_option maxRecDepth 20000 in
theorem ctX0_spreads (l : Launch) (g : kG) (A : Nat → Prop) (ws : va_W) {l0 : Int32} {Q : Int32 → Prop} (h : wX0_spreads l0 Q) : kCt l yX0_spreads cX0_spreads 1 (some .boolean) 0 40 0 0 g A [.int l0] ws (kTi ws Q) := by
  refine kCt.of (lv0 := [(0, .int l0)]) (by decide +kernel) (Nat.le_of_ble_eq_true rfl) rfl (fun z hl hg hA F R => ?_)
  subst hl hg hA
  have F : kF z cX0_spreads RX0 1 { frames := 0, cells := 0, slots := 0, locals := 40 } := F
  unfold wX0_spreads at h
  refine g_iload_n F dX0_spreads_0 0 rfl ?_
  refine g_iconst (v := (1 : Int32)) F dX0_spreads_1 (by decide) ?_
  refine g_icmp_eq F dX0_spreads_2 (tgt := 10) (by decide) (fun c1 => ?_) (fun c1 => ?_)
  · replace h := h.1 c1
    refine g_iconst (v := (1 : Int32)) F dX0_spreads_10 (by decide) ?_
    refine g_goto F dX0_spreads_11 (tgt := 15) (by decide) ?_
    exact g_zret F R rfl rfl rfl dX0_spreads_15 ⟨_, rfl, rfl, h⟩
  replace h := h.2 c1
  refine g_iload_n F dX0_spreads_5 0 rfl ?_
  refine g_iconst (v := (4 : Int32)) F dX0_spreads_6 (by decide) ?_
  refine g_icmp_ne F dX0_spreads_7 (tgt := 14) (by decide) (fun c2 => ?_) (fun c2 => ?_)
  · replace h := h.1 c2
    refine g_iconst (v := (0 : Int32)) F dX0_spreads_14 (by decide) ?_
    exact g_zret F R rfl rfl rfl dX0_spreads_15 ⟨_, rfl, rfl, h⟩
  replace h := h.2 c2
  refine g_iconst (v := (1 : Int32)) F dX0_spreads_10 (by decide) ?_
  refine g_goto F dX0_spreads_11 (tgt := 15) (by decide) ?_
  exact g_zret F R rfl rfl rfl dX0_spreads_15 ⟨_, rfl, rfl, h⟩
set_option maxRecDepth 20000 in
theorem ctX0_holds (l : Launch) (g : kG) (A : Nat → Prop) (ws : va_W) {l0 : Int32} {Q : Int32 → Prop} (h : wX0_holds l0 Q) : kCt l yX0_holds cX0_holds 1 (some .boolean) 0 40 0 0 g A [.int l0] ws (kTi ws Q) := by
  refine kCt.of (lv0 := [(0, .int l0)]) (by decide +kernel) (Nat.le_of_ble_eq_true rfl) rfl (fun z hl hg hA F R => ?_)
  subst hl hg hA
  have F : kF z cX0_holds RX0 1 { frames := 0, cells := 0, slots := 0, locals := 40 } := F
  unfold wX0_holds at h
  refine g_iload_n F dX0_holds_0 0 rfl ?_
  refine g_iconst (v := (5 : Int32)) F dX0_holds_1 (by decide) ?_
  refine g_icmp_ne F dX0_holds_2 (tgt := 9) (by decide) (fun c1 => ?_) (fun c1 => ?_)
  · replace h := h.1 c1
    refine g_iconst (v := (0 : Int32)) F dX0_holds_9 (by decide) ?_
    exact g_zret F R rfl rfl rfl dX0_holds_10 ⟨_, rfl, rfl, h⟩
  replace h := h.2 c1
  refine g_iconst (v := (1 : Int32)) F dX0_holds_5 (by decide) ?_
  refine g_goto F dX0_holds_6 (tgt := 10) (by decide) ?_
  exact g_zret F R rfl rfl rfl dX0_holds_10 ⟨_, rfl, rfl, h⟩
set_option maxRecDepth 20000 in
theorem sX0_draws_131 {z : kZ} {a : Nat → Nat} {tx : List kTxt} {E : va_W} {b : Nat} {Q : Int32 → kS → Prop} {l2 : Int32} {l5 : Int32} {σ : kS} (F : kF z cX0_draws RX0 6 { frames := 1, cells := 0, slots := 0, locals := 80 }) (R : kR z (some .int) 0 0 (kPi (xW (zg z) a tx E) Q)) (hb : isFen b) (h : wX0_draws_131 b Q l2 l5 σ) : kV z (xW (zg z) a tx E σ) 0 0 131 [(0, .ref (a b)), (2, .int l2), (5, .int l5)] [] := by
  unfold wX0_draws_131 at h
  refine g_iload F dX0_draws_131 2 rfl ?_
  refine g_aload_n F dX0_draws_133 0 rfl ?_
  refine rgX0_X0_water hb F dX0_draws_134 ?_
  refine g_iload_n F dX0_draws_137 1 rfl ?_
  obtain ⟨hc, h⟩ := h
  refine g_iald (wf := xW (zg z) a tx E) F (xAF3 hb) hc dX0_draws_138 ?_
  refine g_min F wq331 wq332 wq115 wq333 dX0_draws_139 rfl ?_
  exact g_iret F R rfl rfl dX0_draws_142 ⟨_, _, rfl, rfl, h⟩
set_option maxRecDepth 20000 in
theorem sX0_draws_107 {z : kZ} {a : Nat → Nat} {tx : List kTxt} {E : va_W} {b : Nat} {Q : Int32 → kS → Prop} {l2 : Int32} {ks0 : Int32} {σ : kS} (F : kF z cX0_draws RX0 6 { frames := 1, cells := 0, slots := 0, locals := 80 }) (R : kR z (some .int) 0 0 (kPi (xW (zg z) a tx E) Q)) (hb : isFen b) (h : wX0_draws_107 b Q l2 ks0 σ) : kV z (xW (zg z) a tx E σ) 0 0 107 [(0, .ref (a b)), (2, .int l2)] [.int ks0] := by
  unfold wX0_draws_107 at h
  refine g_istore (lv' := [(5, .int ks0), (0, .ref (a b)), (2, .int l2)]) F dX0_draws_107 rfl rfl ?_
  refine g_goto F dX0_draws_109 (tgt := 131) (by decide) ?_
  exact g_sub [1, 2, 0] rfl (sX0_draws_131 F R hb h)
set_option maxRecDepth 20000 in
theorem sX0_draws_34 {z : kZ} {a : Nat → Nat} {tx : List kTxt} {E : va_W} {b : Nat} {Q : Int32 → kS → Prop} {l1 : Int32} {l2 : Int32} {l3 : Int32} {ks0 : Int32} {σ : kS} (F : kF z cX0_draws RX0 6 { frames := 1, cells := 0, slots := 0, locals := 80 }) (R : kR z (some .int) 0 0 (kPi (xW (zg z) a tx E) Q)) (hb : isFen b) (h : wX0_draws_34 b Q l1 l2 l3 ks0 σ) : kV z (xW (zg z) a tx E σ) 0 0 34 [(0, .ref (a b)), (1, .int l1), (2, .int l2), (3, .int l3)] [.int ks0] := by
  unfold wX0_draws_34 at h
  refine g_istore (lv' := [(4, .int ks0), (0, .ref (a b)), (1, .int l1), (2, .int l2), (3, .int l3)]) F dX0_draws_34 rfl rfl ?_
  refine g_aload_n F dX0_draws_36 1 rfl ?_
  refine rgX0_X0_kind hb F dX0_draws_37 ?_
  refine g_iload_n F dX0_draws_40 2 rfl ?_
  obtain ⟨hc, h⟩ := h
  refine g_iald (wf := xW (zg z) a tx E) F (xAF4 hb) hc dX0_draws_41 ?_
  by_cases c3 : (σ.1 (b + 4) l1.toNatClampNeg) = (1 : Int32)
  · replace h := h.1 c3
    refine g_tableIn F dX0_draws_42 (1 : Int32) c3 (off := 34) (tgt := 76) (by decide) (by decide) ?_
    refine g_iload F dX0_draws_76 0 rfl ?_
    refine g_istore (lv' := [(5, .int ks0), (4, .int ks0), (0, .ref (a b)), (1, .int l1), (2, .int l2), (3, .int l3)]) F dX0_draws_78 rfl rfl ?_
    refine g_goto F dX0_draws_80 (tgt := 131) (by decide) ?_
    exact g_sub [2, 4, 0] rfl (sX0_draws_131 F R hb h)
  replace h := h.2
  by_cases c4 : (σ.1 (b + 4) l1.toNatClampNeg) = (2 : Int32)
  · replace h := h.1 c4
    refine g_tableIn F dX0_draws_42 (2 : Int32) c4 (off := 41) (tgt := 83) (by decide) (by decide) ?_
    refine g_iload_n F dX0_draws_83 4 rfl ?_
    refine g_iconst (v := (5 : Int32)) F dX0_draws_84 (by decide) ?_
    refine g_iadd F dX0_draws_85 ?_
    refine g_topi (fun x5 ex5 => ?_)
    replace h := h x5 ex5
    refine g_istore (lv' := [(5, .int x5), (4, .int ks0), (0, .ref (a b)), (1, .int l1), (2, .int l2), (3, .int l3)]) F dX0_draws_86 rfl rfl ?_
    refine g_goto F dX0_draws_88 (tgt := 131) (by decide) ?_
    exact g_sub [2, 4, 0] rfl (sX0_draws_131 F R hb h)
  replace h := h.2
  by_cases c6 : (σ.1 (b + 4) l1.toNatClampNeg) = (3 : Int32)
  · replace h := h.1 c6
    refine g_tableIn F dX0_draws_42 (3 : Int32) c6 (off := 49) (tgt := 91) (by decide) (by decide) ?_
    refine g_aload_n F dX0_draws_91 1 rfl ?_
    refine rgX0_X0_year hb F dX0_draws_92 ?_
    refine g_iconst (v := (3 : Int32)) F dX0_draws_95 (by decide) ?_
    refine g_irem F dX0_draws_96 (by decide) ?_
    refine g_iconst (v := (2 : Int32)) F dX0_draws_97 (by decide) ?_
    refine g_icmp_ne F dX0_draws_98 (tgt := 105) (by decide) (fun c7 => ?_) (fun c7 => ?_)
    · replace h := h.1 c7
      refine g_iload F dX0_draws_105 0 rfl ?_
      exact g_sub [1, 3] rfl (sX0_draws_107 F R hb h)
    replace h := h.2 c7
    refine g_iconst (v := (0 : Int32)) F dX0_draws_101 (by decide) ?_
    refine g_goto F dX0_draws_102 (tgt := 107) (by decide) ?_
    exact g_sub [1, 3] rfl (sX0_draws_107 F R hb h)
  replace h := h.2
  by_cases c8 : (σ.1 (b + 4) l1.toNatClampNeg) = (4 : Int32)
  · replace h := h.1 c8
    refine g_tableIn F dX0_draws_42 (4 : Int32) c8 (off := 70) (tgt := 112) (by decide) (by decide) ?_
    refine g_iconst (v := (2 : Int32)) F dX0_draws_112 (by decide) ?_
    refine g_iload_n F dX0_draws_113 4 rfl ?_
    refine g_iconst (v := (5 : Int32)) F dX0_draws_114 (by decide) ?_
    refine g_iadd F dX0_draws_115 ?_
    refine g_imul F dX0_draws_116 ?_
    refine g_topi (fun x9 ex9 => ?_)
    replace h := h x9 ex9
    refine g_istore (lv' := [(5, .int x9), (4, .int ks0), (0, .ref (a b)), (1, .int l1), (2, .int l2), (3, .int l3)]) F dX0_draws_117 rfl rfl ?_
    refine g_goto F dX0_draws_119 (tgt := 131) (by decide) ?_
    exact g_sub [2, 4, 0] rfl (sX0_draws_131 F R hb h)
  replace h := h.2
  by_cases c10 : (σ.1 (b + 4) l1.toNatClampNeg) = (5 : Int32)
  · replace h := h.1 c10
    refine g_tableIn F dX0_draws_42 (5 : Int32) c10 (off := 80) (tgt := 122) (by decide) (by decide) ?_
    refine g_iconst (v := (0 : Int32)) F dX0_draws_122 (by decide) ?_
    refine g_istore (lv' := [(5, .int (0 : Int32)), (4, .int ks0), (0, .ref (a b)), (1, .int l1), (2, .int l2), (3, .int l3)]) F dX0_draws_123 rfl rfl ?_
    refine g_goto F dX0_draws_125 (tgt := 131) (by decide) ?_
    exact g_sub [2, 4, 0] rfl (sX0_draws_131 F R hb h)
  replace h := h.2
  replace h := h c3 c4 c6 c8 c10
  refine g_tableOut F dX0_draws_42 5 (by decide) (lt_s (lt_s (lt_s (lt_s (lt_s (lt_0) c3) c4) c6) c8) c10) (tgt := 128) (by decide) ?_
  refine g_iload_n F dX0_draws_128 4 rfl ?_
  refine g_istore (lv' := [(5, .int l3), (4, .int ks0), (0, .ref (a b)), (1, .int l1), (2, .int l2), (3, .int l3)]) F dX0_draws_129 rfl rfl ?_
  exact g_sub [2, 4, 0] rfl (sX0_draws_131 F R hb h)
set_option maxRecDepth 20000 in
theorem ctX0_draws (l : Launch) (g : kG) (A : Nat → Prop) (a : Nat → Nat) (tx : List kTxt) (E : va_W) {b : Nat} (hb : isFen b) {l1 : Int32} {l2 : Int32} {σ : kS} {Q : Int32 → kS → Prop} (h : wX0_draws b l1 l2 σ Q) : kCt l yX0_draws cX0_draws 6 (some .int) 1 80 0 0 g A [.ref (a b), .int l1, .int l2] (xW g a tx E σ) (kPi (xW g a tx E) Q) := by
  refine kCt.of (lv0 := [(0, .ref (a b)), (1, .int l1), (2, .int l2)]) (by decide +kernel) (Nat.le_of_ble_eq_true rfl) rfl (fun z hl hg hA F R => ?_)
  subst hl hg hA
  have F : kF z cX0_draws RX0 6 { frames := 1, cells := 0, slots := 0, locals := 80 } := F
  unfold wX0_draws at h
  refine g_aload_n F dX0_draws_0 0 rfl ?_
  refine rgX0_X0_number hb F dX0_draws_1 ?_
  refine g_iload_n F dX0_draws_4 1 rfl ?_
  obtain ⟨hc, h⟩ := h
  refine g_iald (wf := xW (zg z) a tx E) F (xAF5 hb) hc dX0_draws_5 ?_
  refine g_topi (fun x1 ex1 => ?_)
  replace h := h x1 ex1
  refine g_istore_n (lv' := [(3, .int x1), (0, .ref (a b)), (1, .int l1), (2, .int l2)]) F dX0_draws_6 rfl rfl ?_
  refine g_aload_n F dX0_draws_7 1 rfl ?_
  refine rgX0_X0_height hb F dX0_draws_8 ?_
  refine g_iload_n F dX0_draws_11 3 rfl ?_
  obtain ⟨hc, h⟩ := h
  refine g_iald (wf := xW (zg z) a tx E) F (xAF1 hb) hc dX0_draws_12 ?_
  refine g_aload_n F dX0_draws_13 1 rfl ?_
  refine rgX0_X0_river hb F dX0_draws_14 ?_
  refine g_icmp_le F dX0_draws_17 (tgt := 33) (by decide) (fun c2 => ?_) (fun c2 => ?_)
  · replace h := h.1 c2
    refine g_iload_n F dX0_draws_33 0 rfl ?_
    exact g_sub [1, 2, 3, 0] rfl (sX0_draws_34 F R hb h)
  replace h := h.2 c2
  refine g_aload_n F dX0_draws_20 1 rfl ?_
  refine rgX0_X0_water hb F dX0_draws_21 ?_
  refine g_iload_n F dX0_draws_24 3 rfl ?_
  obtain ⟨hc, h⟩ := h
  refine g_iald (wf := xW (zg z) a tx E) F (xAF3 hb) hc dX0_draws_25 ?_
  refine g_iconst (v := (2 : Int32)) F dX0_draws_26 (by decide) ?_
  refine g_idiv F dX0_draws_27 (by decide) ?_
  refine g_iload_n F dX0_draws_28 0 rfl ?_
  refine g_iadd F dX0_draws_29 ?_
  refine g_goto F dX0_draws_30 (tgt := 34) (by decide) ?_
  exact g_sub [1, 2, 3, 0] rfl (sX0_draws_34 F R hb h)
theorem plX0_draws : kPlain yX0_draws 2 = true := by decide +kernel
theorem rX0_X0_draws {z : kZ} {cc : ByteArray} {nL : Nat} {rm : Room} {c n pc : Nat} {lv : List (Nat × Value)} {st : List Value} {a : Nat → Nat} {tx : List kTxt} {E : va_W} {σ : kS} {b : Nat} {l1 : Int32} {l2 : Int32} {Q : Int32 → kS → Prop} (F : kF z cc RX0 nL rm) (hb : isFen b) (hd : decode cc pc = .ok (.invokevirtual 81, 3)) (hf : kFits rm 1 80 0 0 6 c n st = true) (h : wX0_draws b l1 l2 σ Q) (k : ∀ (v : Int32) (σ' : kS), Q v σ' → kV z (xW (zg z) a tx E σ') c n (pc + 3) lv (.int v :: st)) : kV z (xW (zg z) a tx E σ) c n pc lv (.int l2 :: .int l1 :: .ref (a b) :: st) := by
  exact g_callV F (av := [.int l1, .int l2]) (ctX0_draws _ _ _ a tx E hb h) (ci := 0) (q0 := b) rfl (xFen_at hb) rfl wq327 wq329 wq1 wq110 wq330 plX0_draws hd hf (fun r ws' hq => by
    obtain ⟨v, σ', rfl, rfl, hq⟩ := hq
    exact k v σ' hq)
set_option maxRecDepth 20000 in
theorem ctX0_drawsOfOwn (l : Launch) (g : kG) (A : Nat → Prop) (a : Nat → Nat) (tx : List kTxt) (E : va_W) {b : Nat} (hb : isFen b) {l1 : Int32} {σ : kS} {Q : Int32 → kS → Prop} (h : wX0_drawsOfOwn b l1 σ Q) : kCt l yX0_drawsOfOwn cX0_drawsOfOwn 2 (some .int) 2 105 0 0 g A [.ref (a b), .int l1] (xW g a tx E σ) (kPi (xW g a tx E) Q) := by
  refine kCt.of (lv0 := [(0, .ref (a b)), (1, .int l1)]) (by decide +kernel) (Nat.le_of_ble_eq_true rfl) rfl (fun z hl hg hA F R => ?_)
  subst hl hg hA
  have F : kF z cX0_drawsOfOwn RX0 2 { frames := 2, cells := 0, slots := 0, locals := 105 } := F
  unfold wX0_drawsOfOwn at h
  refine g_iload_n F dX0_drawsOfOwn_0 1 rfl ?_
  refine g_if_lt F dX0_drawsOfOwn_1 (tgt := 24) (by decide) (fun c1 => ?_) (fun c1 => ?_)
  · replace h := h.1 c1
    refine g_iconst (v := (0 : Int32)) F dX0_drawsOfOwn_24 (by decide) ?_
    exact g_iret F R rfl rfl dX0_drawsOfOwn_25 ⟨_, _, rfl, rfl, h⟩
  replace h := h.2 c1
  refine g_iload_n F dX0_drawsOfOwn_4 1 rfl ?_
  refine g_aload_n F dX0_drawsOfOwn_5 0 rfl ?_
  refine rgX0_X0_works hb F dX0_drawsOfOwn_6 ?_
  refine g_icmp_ge F dX0_drawsOfOwn_9 (tgt := 24) (by decide) (fun c2 => ?_) (fun c2 => ?_)
  · replace h := h.1 c2
    refine g_iconst (v := (0 : Int32)) F dX0_drawsOfOwn_24 (by decide) ?_
    exact g_iret F R rfl rfl dX0_drawsOfOwn_25 ⟨_, _, rfl, rfl, h⟩
  replace h := h.2 c2
  refine g_aload_n F dX0_drawsOfOwn_12 0 rfl ?_
  refine rgX0_X0_place hb F dX0_drawsOfOwn_13 ?_
  refine g_iload_n F dX0_drawsOfOwn_16 1 rfl ?_
  obtain ⟨hc, h⟩ := h
  refine g_iald (wf := xW (zg z) a tx E) F (xAF6 hb) hc dX0_drawsOfOwn_17 ?_
  refine rX0_X4_isCell F dX0_drawsOfOwn_18 rfl h (fun r3 h => ?_)
  refine g_if_ne F dX0_drawsOfOwn_21 (tgt := 26) (by decide) (fun c4 => ?_) (fun c4 => ?_)
  · replace h := h.1 c4
    refine g_aload_n F dX0_drawsOfOwn_26 0 rfl ?_
    refine g_iload_n F dX0_drawsOfOwn_27 1 rfl ?_
    refine g_aload_n F dX0_drawsOfOwn_28 0 rfl ?_
    refine rgX0_X0_place hb F dX0_drawsOfOwn_29 ?_
    refine g_iload_n F dX0_drawsOfOwn_32 1 rfl ?_
    obtain ⟨hc, h⟩ := h
    refine g_iald (wf := xW (zg z) a tx E) F (xAF6 hb) hc dX0_drawsOfOwn_33 ?_
    refine rX0_X0_draws F hb dX0_drawsOfOwn_34 rfl h (fun r6 s5 h => ?_)
    exact g_iret F R rfl rfl dX0_drawsOfOwn_37 ⟨_, _, rfl, rfl, h⟩
  replace h := h.2 c4
  refine g_iconst (v := (0 : Int32)) F dX0_drawsOfOwn_24 (by decide) ?_
  exact g_iret F R rfl rfl dX0_drawsOfOwn_25 ⟨_, _, rfl, rfl, h⟩
set_option maxRecDepth 20000 in
theorem sX0_named_103 {z : kZ} {a : Nat → Nat} {tx : List kTxt} {E : va_W} {b : Nat} {Q : Int32 → kS → Prop} {l2 : Int32} {l4 : Int32} {l5 : Int32} {σ : kS} (F : kF z cX0_named RX0 6 { frames := 0, cells := 0, slots := 0, locals := 40 }) (R : kR z (some .int) 0 0 (kPi (xW (zg z) a tx E) Q)) (hb : isFen b) (h : wX0_named_103 b Q l2 l4 l5 σ) : kV z (xW (zg z) a tx E σ) 0 0 103 [(0, .ref (a b)), (2, .int l2), (4, .int l4), (5, .int l5)] [] := by
  unfold wX0_named_103 at h
  refine h (fun l4 l5 => kV z (xW (zg z) a tx E σ) 0 0 103 [(0, .ref (a b)), (2, .int l2), (4, .int l4), (5, .int l5)] []) (fun l4 l5 h => ?_)
  refine g_iload F dX0_named_103 3 rfl ?_
  refine g_aload_n F dX0_named_105 0 rfl ?_
  refine rgX0_X0_works hb F dX0_named_106 ?_
  refine g_icmp_ge F dX0_named_109 (tgt := 139) (by decide) (fun c11 => ?_) (fun c11 => ?_)
  · replace h := h.1 c11
    refine g_iload F dX0_named_139 2 rfl ?_
    exact g_iret F R rfl rfl dX0_named_141 ⟨_, _, rfl, rfl, h⟩
  replace h := h.2 c11
  refine g_iload F dX0_named_112 3 rfl ?_
  refine g_bipush (v := (6 : Int32)) F dX0_named_114 (by decide) ?_
  refine g_icmp_ge F dX0_named_116 (tgt := 139) (by decide) (fun c12 => ?_) (fun c12 => ?_)
  · replace h := h.1 c12
    refine g_iload F dX0_named_139 2 rfl ?_
    exact g_iret F R rfl rfl dX0_named_141 ⟨_, _, rfl, rfl, h⟩
  replace h := h.2 c12
  refine g_aload_n F dX0_named_119 0 rfl ?_
  refine rgX0_X0_place hb F dX0_named_120 ?_
  refine g_iload F dX0_named_123 3 rfl ?_
  obtain ⟨hc, h⟩ := h
  refine g_iald (wf := xW (zg z) a tx E) F (xAF6 hb) hc dX0_named_125 ?_
  refine g_iload_n F dX0_named_126 1 rfl ?_
  refine g_icmp_ne F dX0_named_127 (tgt := 133) (by decide) (fun c13 => ?_) (fun c13 => ?_)
  · replace h := h.1 c13
    obtain ⟨x14, ex14⟩ : ∃ q : Int32, q = l5 + (1 : Int32) := ⟨_, rfl⟩
    replace h := h x14 ex14
    refine g_iinc (lv' := [(5, .int x14), (0, .ref (a b)), (2, .int l2), (4, .int l4)]) (d := (1 : Int32)) F dX0_named_133 rfl 3 rfl (by decide) ex14.symm rfl ?_
    refine g_goto F dX0_named_136 (tgt := 103) (by decide) ?_
    exact (g_sub [1, 2, 3, 0] rfl h)
  replace h := h.2 c13
  obtain ⟨x15, ex15⟩ : ∃ q : Int32, q = l4 + (1 : Int32) := ⟨_, rfl⟩
  replace h := h x15 ex15
  refine g_iinc (lv' := [(4, .int x15), (0, .ref (a b)), (2, .int l2), (5, .int l5)]) (d := (1 : Int32)) F dX0_named_130 rfl 2 rfl (by decide) ex15.symm rfl ?_
  obtain ⟨x16, ex16⟩ : ∃ q : Int32, q = l5 + (1 : Int32) := ⟨_, rfl⟩
  replace h := h x16 ex16
  refine g_iinc (lv' := [(5, .int x16), (4, .int x15), (0, .ref (a b)), (2, .int l2)]) (d := (1 : Int32)) F dX0_named_133 rfl 3 rfl (by decide) ex16.symm rfl ?_
  refine g_goto F dX0_named_136 (tgt := 103) (by decide) ?_
  exact (g_sub [2, 3, 1, 0] rfl h)
set_option maxRecDepth 20000 in
theorem sX0_named_80 {z : kZ} {a : Nat → Nat} {tx : List kTxt} {E : va_W} {b : Nat} {Q : Int32 → kS → Prop} {l2 : Int32} {l3 : Int32} {σ : kS} (F : kF z cX0_named RX0 6 { frames := 0, cells := 0, slots := 0, locals := 40 }) (R : kR z (some .int) 0 0 (kPi (xW (zg z) a tx E) Q)) (hb : isFen b) (h : wX0_named_80 b Q l2 l3 σ) : kV z (xW (zg z) a tx E σ) 0 0 80 [(0, .ref (a b)), (2, .int l2), (3, .int l3)] [] := by
  unfold wX0_named_80 at h
  refine g_iload_n F dX0_named_80 2 rfl ?_
  refine g_if_lt F dX0_named_81 (tgt := 97) (by decide) (fun c9 => ?_) (fun c9 => ?_)
  · replace h := h.1 c9
    refine g_iconst (v := (0 : Int32)) F dX0_named_97 (by decide) ?_
    refine g_istore (lv' := [(4, .int (0 : Int32)), (0, .ref (a b)), (2, .int l2), (3, .int l3)]) F dX0_named_98 rfl rfl ?_
    refine g_iconst (v := (0 : Int32)) F dX0_named_100 (by decide) ?_
    refine g_istore (lv' := [(5, .int (0 : Int32)), (4, .int (0 : Int32)), (0, .ref (a b)), (2, .int l2), (3, .int l3)]) F dX0_named_101 rfl rfl ?_
    exact g_sub [2, 3, 1, 0] rfl (sX0_named_103 F R hb h)
  replace h := h.2 c9
  refine g_iload_n F dX0_named_84 2 rfl ?_
  refine g_bipush (v := (6 : Int32)) F dX0_named_85 (by decide) ?_
  refine g_icmp_ge F dX0_named_87 (tgt := 97) (by decide) (fun c10 => ?_) (fun c10 => ?_)
  · replace h := h.1 c10
    refine g_iconst (v := (0 : Int32)) F dX0_named_97 (by decide) ?_
    refine g_istore (lv' := [(4, .int (0 : Int32)), (0, .ref (a b)), (2, .int l2), (3, .int l3)]) F dX0_named_98 rfl rfl ?_
    refine g_iconst (v := (0 : Int32)) F dX0_named_100 (by decide) ?_
    refine g_istore (lv' := [(5, .int (0 : Int32)), (4, .int (0 : Int32)), (0, .ref (a b)), (2, .int l2), (3, .int l3)]) F dX0_named_101 rfl rfl ?_
    exact g_sub [2, 3, 1, 0] rfl (sX0_named_103 F R hb h)
  replace h := h.2 c10
  refine g_aload_n F dX0_named_90 0 rfl ?_
  refine rgX0_X0_number hb F dX0_named_91 ?_
  refine g_iload_n F dX0_named_94 2 rfl ?_
  obtain ⟨hc, h⟩ := h
  refine g_iald (wf := xW (zg z) a tx E) F (xAF5 hb) hc dX0_named_95 ?_
  exact g_iret F R rfl rfl dX0_named_96 ⟨_, _, rfl, rfl, h⟩
set_option maxRecDepth 20000 in
theorem ctX0_named (l : Launch) (g : kG) (A : Nat → Prop) (a : Nat → Nat) (tx : List kTxt) (E : va_W) {b : Nat} (hb : isFen b) {l1 : Int32} {l2 : Int32} {l3 : Int32} {σ : kS} {Q : Int32 → kS → Prop} (h : wX0_named b l1 l2 l3 σ Q) : kCt l yX0_named cX0_named 6 (some .int) 0 40 0 0 g A [.ref (a b), .int l1, .int l2, .int l3] (xW g a tx E σ) (kPi (xW g a tx E) Q) := by
  refine kCt.of (lv0 := [(0, .ref (a b)), (1, .int l1), (2, .int l2), (3, .int l3)]) (by decide +kernel) (Nat.le_of_ble_eq_true rfl) rfl (fun z hl hg hA F R => ?_)
  subst hl hg hA
  have F : kF z cX0_named RX0 6 { frames := 0, cells := 0, slots := 0, locals := 40 } := F
  unfold wX0_named at h
  refine g_iload_n F dX0_named_0 2 rfl ?_
  refine g_if_lt F dX0_named_1 (tgt := 10) (by decide) (fun c1 => ?_) (fun c1 => ?_)
  · replace h := h.1 c1
    refine g_iconst (v := (0 : Int32)) F dX0_named_10 (by decide) ?_
    exact g_iret F R rfl rfl dX0_named_11 ⟨_, _, rfl, rfl, h⟩
  replace h := h.2 c1
  refine g_iload_n F dX0_named_4 2 rfl ?_
  refine g_bipush (v := (12 : Int32)) F dX0_named_5 (by decide) ?_
  refine g_icmp_lt F dX0_named_7 (tgt := 12) (by decide) (fun c2 => ?_) (fun c2 => ?_)
  · replace h := h.1 c2
    refine g_iload_n F dX0_named_12 1 rfl ?_
    by_cases c3 : l1 = (-6 : Int32)
    · replace h := h.1 c3
      refine g_tableIn F dX0_named_13 (-6 : Int32) c3 (off := 65) (tgt := 78) (by decide) (by decide) ?_
      refine g_iload_n F dX0_named_78 2 rfl ?_
      exact g_iret F R rfl rfl dX0_named_79 ⟨_, _, rfl, rfl, h⟩
    replace h := h.2
    by_cases c4 : l1 = (-5 : Int32)
    · replace h := h.1 c4
      refine g_tableIn F dX0_named_13 (-5 : Int32) c4 (off := 58) (tgt := 71) (by decide) (by decide) ?_
      refine g_aload_n F dX0_named_71 0 rfl ?_
      refine rgX0_X0_water hb F dX0_named_72 ?_
      refine g_iload_n F dX0_named_75 2 rfl ?_
      obtain ⟨hc, h⟩ := h
      refine g_iald (wf := xW (zg z) a tx E) F (xAF3 hb) hc dX0_named_76 ?_
      exact g_iret F R rfl rfl dX0_named_77 ⟨_, _, rfl, rfl, h⟩
    replace h := h.2
    by_cases c5 : l1 = (-4 : Int32)
    · replace h := h.1 c5
      refine g_tableIn F dX0_named_13 (-4 : Int32) c5 (off := 67) (tgt := 80) (by decide) (by decide) ?_
      exact g_sub [0, 2, 3] rfl (sX0_named_80 F R hb h)
    replace h := h.2
    by_cases c6 : l1 = (-3 : Int32)
    · replace h := h.1 c6
      refine g_tableIn F dX0_named_13 (-3 : Int32) c6 (off := 53) (tgt := 66) (by decide) (by decide) ?_
      refine g_aload_n F dX0_named_66 0 rfl ?_
      refine rgX0_X0_year hb F dX0_named_67 ?_
      exact g_iret F R rfl rfl dX0_named_70 ⟨_, _, rfl, rfl, h⟩
    replace h := h.2
    by_cases c7 : l1 = (-2 : Int32)
    · replace h := h.1 c7
      refine g_tableIn F dX0_named_13 (-2 : Int32) c7 (off := 46) (tgt := 59) (by decide) (by decide) ?_
      refine g_aload_n F dX0_named_59 0 rfl ?_
      refine rgX0_X0_peat hb F dX0_named_60 ?_
      refine g_iload_n F dX0_named_63 2 rfl ?_
      obtain ⟨hc, h⟩ := h
      refine g_iald (wf := xW (zg z) a tx E) F (xAF2 hb) hc dX0_named_64 ?_
      exact g_iret F R rfl rfl dX0_named_65 ⟨_, _, rfl, rfl, h⟩
    replace h := h.2
    by_cases c8 : l1 = (-1 : Int32)
    · replace h := h.1 c8
      refine g_tableIn F dX0_named_13 (-1 : Int32) c8 (off := 39) (tgt := 52) (by decide) (by decide) ?_
      refine g_aload_n F dX0_named_52 0 rfl ?_
      refine rgX0_X0_height hb F dX0_named_53 ?_
      refine g_iload_n F dX0_named_56 2 rfl ?_
      obtain ⟨hc, h⟩ := h
      refine g_iald (wf := xW (zg z) a tx E) F (xAF1 hb) hc dX0_named_57 ?_
      exact g_iret F R rfl rfl dX0_named_58 ⟨_, _, rfl, rfl, h⟩
    replace h := h.2
    replace h := h c3 c4 c5 c6 c7 c8
    refine g_tableOut F dX0_named_13 6 (by decide) (lt_s (lt_s (lt_s (lt_s (lt_s (lt_s (lt_0) c3) c4) c5) c6) c7) c8) (tgt := 80) (by decide) ?_
    exact g_sub [0, 2, 3] rfl (sX0_named_80 F R hb h)
  replace h := h.2 c2
  refine g_iconst (v := (0 : Int32)) F dX0_named_10 (by decide) ?_
  exact g_iret F R rfl rfl dX0_named_11 ⟨_, _, rfl, rfl, h⟩
theorem plX3_codeOf : kPlain yX3_codeOf 1 = true := by decide +kernel
theorem rX0_X3_codeOf {z : kZ} {cc : ByteArray} {nL : Nat} {rm : Room} {c n pc : Nat} {lv : List (Nat × Value)} {st : List Value} {a : Nat → Nat} {tx : List kTxt} {E : va_W} {σ : kS} {T : kTxt} {l1 : Int32} {Q : kRow → kS → Prop} (F : kF z cc RX0 nL rm) (hT : xIn (zg z) E T) (hd : decode cc pc = .ok (.invokevirtual 126, 3)) (hf : kFits rm 0 40 0 0 2 c n st = true) (h : wX3_codeOf T l1 σ Q) (k : ∀ (e : kRow), xIs (zg z) E e → ∀ σ' : kS, Q e σ' → kV z (xW (zg z) a tx E σ') c n (pc + 3) lv (.ref e.1 :: st)) : kV z (xW (zg z) a tx E σ) c n pc lv (.int l1 :: .ref T.1 :: st) := by
  obtain ⟨p, hp⟩ := hT.1
  exact g_callV F (av := [.int l1]) (ctX3_codeOf _ _ _ a tx E hT h) (ci := 3) (q0 := p + 41) rfl (xE_at.trans hp) rfl wq346 wq347 wq348 wq111 wq349 plX3_codeOf hd hf (fun r ws' hq => by
    obtain ⟨e, σ', rfl, ha, rfl, hq⟩ := hq
    exact k e ha σ' hq)
theorem plX3_joined : kPlain yX3_joined 3 = true := by decide +kernel
theorem rX0_X3_joined {z : kZ} {cc : ByteArray} {nL : Nat} {rm : Room} {c n pc : Nat} {lv : List (Nat × Value)} {st : List Value} {ws : va_W} {l0 : Int32} {l1 : Int32} {l2 : Int32} {Q : Int32 → Prop} (F : kF z cc RX0 nL rm) (hd : decode cc pc = .ok (.invokestatic 138, 3)) (hf : kFits rm 0 40 0 0 3 c n st = true) (h : wX3_joined l0 l1 l2 Q) (k : ∀ v : Int32, Q v → kV z ws c n (pc + 3) lv (.int v :: st)) : kV z ws c n pc lv (.int l2 :: .int l1 :: .int l0 :: st) := g_callS F (av := [.int l0, .int l1, .int l2]) (ctX3_joined _ _ _ ws h) wq357 wq358 wq111 wq359 plX3_joined hd hf (fun r ws' hq => by
    obtain ⟨v, rfl, rfl, hq⟩ := hq
    exact k v hq)
theorem plX3_turned : kPlain yX3_turned 2 = true := by decide +kernel
theorem rX0_X3_turned {z : kZ} {cc : ByteArray} {nL : Nat} {rm : Room} {c n pc : Nat} {lv : List (Nat × Value)} {st : List Value} {ws : va_W} {l0 : Int32} {l1 : Int32} {Q : Int32 → Prop} (F : kF z cc RX0 nL rm) (hd : decode cc pc = .ok (.invokestatic 135, 3)) (hf : kFits rm 0 40 0 0 2 c n st = true) (h : wX3_turned l0 l1 Q) (k : ∀ v : Int32, Q v → kV z ws c n (pc + 3) lv (.int v :: st)) : kV z ws c n pc lv (.int l1 :: .int l0 :: st) := g_callS F (av := [.int l0, .int l1]) (ctX3_turned _ _ _ ws h) wq354 wq355 wq111 wq356 plX3_turned hd hf (fun r ws' hq => by
    obtain ⟨v, rfl, rfl, hq⟩ := hq
    exact k v hq)
theorem plX0_named : kPlain yX0_named 3 = true := by decide +kernel
theorem rX0_X0_named {z : kZ} {cc : ByteArray} {nL : Nat} {rm : Room} {c n pc : Nat} {lv : List (Nat × Value)} {st : List Value} {a : Nat → Nat} {tx : List kTxt} {E : va_W} {σ : kS} {b : Nat} {l1 : Int32} {l2 : Int32} {l3 : Int32} {Q : Int32 → kS → Prop} (F : kF z cc RX0 nL rm) (hb : isFen b) (hd : decode cc pc = .ok (.invokevirtual 131, 3)) (hf : kFits rm 0 40 0 0 6 c n st = true) (h : wX0_named b l1 l2 l3 σ Q) (k : ∀ (v : Int32) (σ' : kS), Q v σ' → kV z (xW (zg z) a tx E σ') c n (pc + 3) lv (.int v :: st)) : kV z (xW (zg z) a tx E σ) c n pc lv (.int l3 :: .int l2 :: .int l1 :: .ref (a b) :: st) := by
  exact g_callV F (av := [.int l1, .int l2, .int l3]) (ctX0_named _ _ _ a tx E hb h) (ci := 0) (q0 := b) rfl (xFen_at hb) rfl wq350 wq352 wq3 wq110 wq353 plX0_named hd hf (fun r ws' hq => by
    obtain ⟨v, σ', rfl, rfl, hq⟩ := hq
    exact k v σ' hq)
set_option maxRecDepth 20000 in
theorem sX0_says_67 {z : kZ} {a : Nat → Nat} {tx : List kTxt} {E : va_W} {b : Nat} {T : kTxt} {Q : Int32 → kS → Prop} {P13 : kS → Int32 → Int32 → Prop} {l2 : Int32} {l3 : Int32} {l4 : Int32} {e5 : kRow} {l6 : Int32} {l7 : Int32} {ks0 : Int32} {ks1 : Int32} {σ : kS} (F : kF z cX0_says RX0 9 { frames := 1, cells := 0, slots := 0, locals := 80 }) (R : kR z (some .int) 0 0 (kPi (xW (zg z) a tx E) Q)) (hb : isFen b) (hT : xIn (zg z) E T) (hP13 : ∀ (σ : kS) (l6 : Int32) (l7 : Int32), P13 σ l6 l7 → kV z (xW (zg z) a tx E σ) 0 0 13 [(0, .ref (a b)), (2, .int l2), (3, .int l3), (4, .int l4), (5, .ref e5.1), (6, .int l6), (7, .int l7)] []) (he5 : xIs (zg z) E e5) (h : wX0_says_67 b T Q P13 l2 l3 l4 e5 l6 l7 ks0 ks1 σ) : kV z (xW (zg z) a tx E σ) 0 0 67 [(0, .ref (a b)), (2, .int l2), (3, .int l3), (4, .int l4), (5, .ref e5.1), (6, .int l6), (7, .int l7)] [.int ks0, .int ks1, .ref (a (b + 8))] := by
  unfold wX0_says_67 at h
  obtain ⟨hc, h⟩ := h
  refine g_iast (wf := xW (zg z) a tx E) F (xAF8 hb) hc dX0_says_67 ?_
  refine g_name (wf := xW (zg z) a tx E) (fun s26 es26 => ?_)
  replace h := h s26 es26
  obtain ⟨x27, ex27⟩ : ∃ q : Int32, q = l6 + (1 : Int32) := ⟨_, rfl⟩
  replace h := h x27 ex27
  refine g_iinc (lv' := [(6, .int x27), (0, .ref (a b)), (2, .int l2), (3, .int l3), (4, .int l4), (5, .ref e5.1), (7, .int l7)]) (d := (1 : Int32)) F dX0_says_68 rfl 5 rfl (by decide) ex27.symm rfl ?_
  refine g_goto F dX0_says_71 (tgt := 151) (by decide) ?_
  obtain ⟨x28, ex28⟩ : ∃ q : Int32, q = l7 + (1 : Int32) := ⟨_, rfl⟩
  replace h := h x28 ex28
  refine g_iinc (lv' := [(7, .int x28), (6, .int x27), (0, .ref (a b)), (2, .int l2), (3, .int l3), (4, .int l4), (5, .ref e5.1)]) (d := (1 : Int32)) F dX0_says_151 rfl 6 rfl (by decide) ex28.symm rfl ?_
  refine g_goto F dX0_says_154 (tgt := 13) (by decide) ?_
  exact g_sub [2, 3, 4, 5, 6, 1, 0] rfl (hP13 _ _ _ h)
set_option maxRecDepth 20000 in
theorem sX0_says_198 {z : kZ} {a : Nat → Nat} {tx : List kTxt} {E : va_W} {b : Nat} {T : kTxt} {Q : Int32 → kS → Prop} {ks0 : Int32} {ks1 : Int32} {ks2 : Int32} {σ : kS} (F : kF z cX0_says RX0 9 { frames := 1, cells := 0, slots := 0, locals := 80 }) (R : kR z (some .int) 0 0 (kPi (xW (zg z) a tx E) Q)) (hb : isFen b) (hT : xIn (zg z) E T) (h : wX0_says_198 b T Q ks0 ks1 ks2 σ) : kV z (xW (zg z) a tx E σ) 0 0 198 [] [.int ks0, .int ks1, .int ks2] := by
  unfold wX0_says_198 at h
  refine g_min F wq331 wq332 wq115 wq333 dX0_says_198 rfl ?_
  refine g_max F wq362 wq363 wq115 wq364 dX0_says_201 rfl ?_
  exact g_iret F R rfl rfl dX0_says_204 ⟨_, _, rfl, rfl, h⟩
set_option maxRecDepth 20000 in
theorem sX0_says_178 {z : kZ} {a : Nat → Nat} {tx : List kTxt} {E : va_W} {b : Nat} {T : kTxt} {Q : Int32 → kS → Prop} {l6 : Int32} {ks0 : Int32} {σ : kS} (F : kF z cX0_says RX0 9 { frames := 1, cells := 0, slots := 0, locals := 80 }) (R : kR z (some .int) 0 0 (kPi (xW (zg z) a tx E) Q)) (hb : isFen b) (hT : xIn (zg z) E T) (h : wX0_says_178 b T Q l6 ks0 σ) : kV z (xW (zg z) a tx E σ) 0 0 178 [(0, .ref (a b)), (6, .int l6)] [.int ks0] := by
  unfold wX0_says_178 at h
  refine g_istore (lv' := [(7, .int ks0), (0, .ref (a b)), (6, .int l6)]) F dX0_says_178 rfl rfl ?_
  refine g_iconst (v := (0 : Int32)) F dX0_says_180 (by decide) ?_
  refine g_iload F dX0_says_181 0 rfl ?_
  refine g_iload F dX0_says_183 2 rfl ?_
  refine g_if_le F dX0_says_185 (tgt := 197) (by decide) (fun c25 => ?_) (fun c25 => ?_)
  · replace h := h.1 c25
    refine g_iconst (v := (0 : Int32)) F dX0_says_197 (by decide) ?_
    exact g_sub [] rfl (sX0_says_198 F R hb hT h)
  replace h := h.2 c25
  refine g_aload_n F dX0_says_188 1 rfl ?_
  refine rgX0_X0_stack hb F dX0_says_189 ?_
  refine g_iconst (v := (0 : Int32)) F dX0_says_192 (by decide) ?_
  refine g_iald (wf := xW (zg z) a tx E) F (xAF8 hb) (kIn rfl) dX0_says_193 ?_
  refine g_goto F dX0_says_194 (tgt := 198) (by decide) ?_
  exact g_sub [] rfl (sX0_says_198 F R hb hT h)
set_option maxRecDepth 20000 in
theorem sX0_says_177 {z : kZ} {a : Nat → Nat} {tx : List kTxt} {E : va_W} {b : Nat} {T : kTxt} {Q : Int32 → kS → Prop} {l6 : Int32} {σ : kS} (F : kF z cX0_says RX0 9 { frames := 1, cells := 0, slots := 0, locals := 80 }) (R : kR z (some .int) 0 0 (kPi (xW (zg z) a tx E) Q)) (hb : isFen b) (hT : xIn (zg z) E T) (h : wX0_says_177 b T Q l6 σ) : kV z (xW (zg z) a tx E σ) 0 0 177 [(0, .ref (a b)), (6, .int l6)] [] := by
  unfold wX0_says_177 at h
  refine g_iconst (v := (0 : Int32)) F dX0_says_177 (by decide) ?_
  exact (sX0_says_178 F R hb hT h)
set_option maxRecDepth 20000 in
theorem sX0_says_13 {z : kZ} {a : Nat → Nat} {tx : List kTxt} {E : va_W} {b : Nat} {T : kTxt} {Q : Int32 → kS → Prop} {l2 : Int32} {l3 : Int32} {l4 : Int32} {e5 : kRow} {l6 : Int32} {l7 : Int32} {σ : kS} (F : kF z cX0_says RX0 9 { frames := 1, cells := 0, slots := 0, locals := 80 }) (R : kR z (some .int) 0 0 (kPi (xW (zg z) a tx E) Q)) (hb : isFen b) (hT : xIn (zg z) E T) (he5 : xIs (zg z) E e5) (h : wX0_says_13 b T Q l2 l3 l4 e5 l6 l7 σ) : kV z (xW (zg z) a tx E σ) 0 0 13 [(0, .ref (a b)), (2, .int l2), (3, .int l3), (4, .int l4), (5, .ref e5.1), (6, .int l6), (7, .int l7)] [] := by
  unfold wX0_says_13 at h
  refine h (fun σ l6 l7 => kV z (xW (zg z) a tx E σ) 0 0 13 [(0, .ref (a b)), (2, .int l2), (3, .int l3), (4, .int l4), (5, .ref e5.1), (6, .int l6), (7, .int l7)] []) (fun σ l6 l7 h => ?_)
  refine g_iload F dX0_says_13 6 rfl ?_
  refine g_aload F dX0_says_15 4 rfl ?_
  refine g_dlen F he5 dX0_says_17 ?_
  refine g_icmp_ge F dX0_says_18 (tgt := 157) (by decide) (fun c3 => ?_) (fun c3 => ?_)
  · replace h := h.1 c3
    refine g_iload_n F dX0_says_157 1 rfl ?_
    refine g_if_lt F dX0_says_158 (tgt := 177) (by decide) (fun c4 => ?_) (fun c4 => ?_)
    · replace h := h.1 c4
      exact g_sub [0, 5] rfl (sX0_says_177 F R hb hT h)
    replace h := h.2 c4
    refine g_iload_n F dX0_says_161 1 rfl ?_
    refine g_gets F F.2.2.2.2.2.2.2.1.2.2.2.1.1 wq360 dX0_says_162 ?_
    refine g_tlen (v := (3 : Int32)) F F.2.2.2.2.2.2.2.1.2.2.2.1.2 (by decide) dX0_says_165 ?_
    refine g_icmp_ge F dX0_says_166 (tgt := 177) (by decide) (fun c5 => ?_) (fun c5 => ?_)
    · replace h := h.1 c5
      exact g_sub [0, 5] rfl (sX0_says_177 F R hb hT h)
    replace h := h.2 c5
    refine g_gets F F.2.2.2.2.2.2.2.1.2.2.2.1.1 wq360 dX0_says_169 ?_
    refine g_iload_n F dX0_says_172 1 rfl ?_
    obtain ⟨hc, h⟩ := h
    refine g_tald F F.2.2.2.2.2.2.2.1.2.2.2.1.2 hc dX0_says_173 ?_
    refine g_goto F dX0_says_174 (tgt := 178) (by decide) ?_
    exact g_sub [0, 5] rfl (sX0_says_178 F R hb hT h)
  replace h := h.2 c3
  refine g_aload F dX0_says_21 4 rfl ?_
  refine g_iload F dX0_says_23 6 rfl ?_
  obtain ⟨hc, h⟩ := h
  refine g_dald F he5 hc dX0_says_25 ?_
  refine g_topi (fun x6 ex6 => ?_)
  replace h := h x6 ex6
  refine g_istore (lv' := [(8, .int x6), (0, .ref (a b)), (2, .int l2), (3, .int l3), (4, .int l4), (5, .ref e5.1), (6, .int l6), (7, .int l7)]) F dX0_says_26 rfl rfl ?_
  refine g_iload F dX0_says_28 0 rfl ?_
  refine g_bipush (v := (-7 : Int32)) F dX0_says_30 (by decide) ?_
  refine g_icmp_le F dX0_says_32 (tgt := 74) (by decide) (fun c7 => ?_) (fun c7 => ?_)
  · replace h := h.1 c7
    refine g_iload F dX0_says_74 0 rfl ?_
    refine g_bipush (v := (-8 : Int32)) F dX0_says_76 (by decide) ?_
    refine g_icmp_lt F dX0_says_78 (tgt := 112) (by decide) (fun c8 => ?_) (fun c8 => ?_)
    · replace h := h.1 c8
      refine g_iload F dX0_says_112 6 rfl ?_
      refine g_iconst (v := (1 : Int32)) F dX0_says_114 (by decide) ?_
      refine g_icmp_le F dX0_says_115 (tgt := 151) (by decide) (fun c9 => ?_) (fun c9 => ?_)
      · replace h := h.1 c9
        obtain ⟨x10, ex10⟩ : ∃ q : Int32, q = l7 + (1 : Int32) := ⟨_, rfl⟩
        replace h := h x10 ex10
        refine g_iinc (lv' := [(7, .int x10), (8, .int x6), (0, .ref (a b)), (2, .int l2), (3, .int l3), (4, .int l4), (5, .ref e5.1), (6, .int l6)]) (d := (1 : Int32)) F dX0_says_151 rfl 7 rfl (by decide) ex10.symm rfl ?_
        refine g_goto F dX0_says_154 (tgt := 13) (by decide) ?_
        exact (g_sub [2, 3, 4, 5, 6, 7, 0] rfl h)
      replace h := h.2 c9
      obtain ⟨x11, ex11⟩ : ∃ q : Int32, q = l6 + (-1 : Int32) := ⟨_, rfl⟩
      replace h := h x11 ex11
      refine g_iinc (lv' := [(6, .int x11), (8, .int x6), (0, .ref (a b)), (2, .int l2), (3, .int l3), (4, .int l4), (5, .ref e5.1), (7, .int l7)]) (d := (-1 : Int32)) F dX0_says_118 rfl 6 rfl (by decide) ex11.symm rfl ?_
      refine g_aload_n F dX0_says_121 2 rfl ?_
      refine rgX0_X0_stack hb F dX0_says_122 ?_
      refine g_iload F dX0_says_125 0 rfl ?_
      refine g_iconst (v := (1 : Int32)) F dX0_says_127 (by decide) ?_
      refine g_isub F dX0_says_128 ?_
      refine g_iload F dX0_says_129 1 rfl ?_
      refine g_aload_n F dX0_says_131 2 rfl ?_
      refine rgX0_X0_stack hb F dX0_says_132 ?_
      refine g_iload F dX0_says_135 0 rfl ?_
      refine g_iconst (v := (1 : Int32)) F dX0_says_137 (by decide) ?_
      refine g_isub F dX0_says_138 ?_
      obtain ⟨hc, h⟩ := h
      refine g_iald (wf := xW (zg z) a tx E) F (xAF8 hb) hc dX0_says_139 ?_
      refine g_aload_n F dX0_says_140 2 rfl ?_
      refine rgX0_X0_stack hb F dX0_says_141 ?_
      refine g_iload F dX0_says_144 0 rfl ?_
      obtain ⟨hc, h⟩ := h
      refine g_iald (wf := xW (zg z) a tx E) F (xAF8 hb) hc dX0_says_146 ?_
      refine rX0_X3_joined F dX0_says_147 rfl h (fun r12 h => ?_)
      obtain ⟨hc, h⟩ := h
      refine g_iast (wf := xW (zg z) a tx E) F (xAF8 hb) hc dX0_says_150 ?_
      refine g_name (wf := xW (zg z) a tx E) (fun s13 es13 => ?_)
      replace h := h s13 es13
      obtain ⟨x14, ex14⟩ : ∃ q : Int32, q = l7 + (1 : Int32) := ⟨_, rfl⟩
      replace h := h x14 ex14
      refine g_iinc (lv' := [(7, .int x14), (6, .int x11), (8, .int x6), (0, .ref (a b)), (2, .int l2), (3, .int l3), (4, .int l4), (5, .ref e5.1)]) (d := (1 : Int32)) F dX0_says_151 rfl 7 rfl (by decide) ex14.symm rfl ?_
      refine g_goto F dX0_says_154 (tgt := 13) (by decide) ?_
      exact (g_sub [3, 4, 5, 6, 7, 1, 0] rfl h)
    replace h := h.2 c8
    refine g_iload F dX0_says_81 6 rfl ?_
    refine g_if_le F dX0_says_83 (tgt := 151) (by decide) (fun c15 => ?_) (fun c15 => ?_)
    · replace h := h.1 c15
      obtain ⟨x16, ex16⟩ : ∃ q : Int32, q = l7 + (1 : Int32) := ⟨_, rfl⟩
      replace h := h x16 ex16
      refine g_iinc (lv' := [(7, .int x16), (8, .int x6), (0, .ref (a b)), (2, .int l2), (3, .int l3), (4, .int l4), (5, .ref e5.1), (6, .int l6)]) (d := (1 : Int32)) F dX0_says_151 rfl 7 rfl (by decide) ex16.symm rfl ?_
      refine g_goto F dX0_says_154 (tgt := 13) (by decide) ?_
      exact (g_sub [2, 3, 4, 5, 6, 7, 0] rfl h)
    replace h := h.2 c15
    refine g_aload_n F dX0_says_86 1 rfl ?_
    refine rgX0_X0_stack hb F dX0_says_87 ?_
    refine g_iload F dX0_says_90 6 rfl ?_
    refine g_iconst (v := (1 : Int32)) F dX0_says_92 (by decide) ?_
    refine g_isub F dX0_says_93 ?_
    refine g_iload F dX0_says_94 0 rfl ?_
    refine g_aload_n F dX0_says_96 1 rfl ?_
    refine rgX0_X0_stack hb F dX0_says_97 ?_
    refine g_iload F dX0_says_100 6 rfl ?_
    refine g_iconst (v := (1 : Int32)) F dX0_says_102 (by decide) ?_
    refine g_isub F dX0_says_103 ?_
    obtain ⟨hc, h⟩ := h
    refine g_iald (wf := xW (zg z) a tx E) F (xAF8 hb) hc dX0_says_104 ?_
    refine rX0_X3_turned F dX0_says_105 rfl h (fun r17 h => ?_)
    obtain ⟨hc, h⟩ := h
    refine g_iast (wf := xW (zg z) a tx E) F (xAF8 hb) hc dX0_says_108 ?_
    refine g_name (wf := xW (zg z) a tx E) (fun s18 es18 => ?_)
    replace h := h s18 es18
    refine g_goto F dX0_says_109 (tgt := 151) (by decide) ?_
    obtain ⟨x19, ex19⟩ : ∃ q : Int32, q = l7 + (1 : Int32) := ⟨_, rfl⟩
    replace h := h x19 ex19
    refine g_iinc (lv' := [(7, .int x19), (8, .int x6), (0, .ref (a b)), (2, .int l2), (3, .int l3), (4, .int l4), (5, .ref e5.1), (6, .int l6)]) (d := (1 : Int32)) F dX0_says_151 rfl 7 rfl (by decide) ex19.symm rfl ?_
    refine g_goto F dX0_says_154 (tgt := 13) (by decide) ?_
    exact (g_sub [2, 3, 4, 5, 6, 7, 0] rfl h)
  replace h := h.2 c7
  refine g_iload F dX0_says_35 6 rfl ?_
  refine g_bipush (v := (31 : Int32)) F dX0_says_37 (by decide) ?_
  refine g_icmp_ge F dX0_says_39 (tgt := 151) (by decide) (fun c20 => ?_) (fun c20 => ?_)
  · replace h := h.1 c20
    obtain ⟨x21, ex21⟩ : ∃ q : Int32, q = l7 + (1 : Int32) := ⟨_, rfl⟩
    replace h := h x21 ex21
    refine g_iinc (lv' := [(7, .int x21), (8, .int x6), (0, .ref (a b)), (2, .int l2), (3, .int l3), (4, .int l4), (5, .ref e5.1), (6, .int l6)]) (d := (1 : Int32)) F dX0_says_151 rfl 7 rfl (by decide) ex21.symm rfl ?_
    refine g_goto F dX0_says_154 (tgt := 13) (by decide) ?_
    exact (g_sub [2, 3, 4, 5, 6, 7, 0] rfl h)
  replace h := h.2 c20
  refine g_aload_n F dX0_says_42 1 rfl ?_
  refine rgX0_X0_stack hb F dX0_says_43 ?_
  refine g_iload F dX0_says_46 6 rfl ?_
  refine g_iload F dX0_says_48 0 rfl ?_
  refine g_if_lt F dX0_says_50 (tgt := 58) (by decide) (fun c22 => ?_) (fun c22 => ?_)
  · replace h := h.1 c22
    refine g_aload_n F dX0_says_58 1 rfl ?_
    refine g_iload F dX0_says_59 0 rfl ?_
    refine g_iload_n F dX0_says_61 3 rfl ?_
    refine g_iload F dX0_says_62 4 rfl ?_
    refine rX0_X0_named F hb dX0_says_64 rfl h (fun r24 s23 h => ?_)
    exact g_sub [1, 2, 3, 4, 5, 6, 7] rfl (sX0_says_67 F R hb hT (fun _ _ _ h => h) he5 h)
  replace h := h.2 c22
  refine g_iload F dX0_says_53 0 rfl ?_
  refine g_goto F dX0_says_55 (tgt := 67) (by decide) ?_
  exact g_sub [1, 2, 3, 4, 5, 6, 7] rfl (sX0_says_67 F R hb hT (fun _ _ _ h => h) he5 h)
set_option maxRecDepth 20000 in
theorem ctX0_says (l : Launch) (g : kG) (A : Nat → Prop) (a : Nat → Nat) (tx : List kTxt) (E : va_W) {b : Nat} {T : kTxt} (hb : isFen b) (hT : xIn g E T) {l2 : Int32} {l3 : Int32} {l4 : Int32} {σ : kS} {Q : Int32 → kS → Prop} (h : wX0_says b T l2 l3 l4 σ Q) : kCt l yX0_says cX0_says 9 (some .int) 1 80 0 0 g A [.ref (a b), .ref T.1, .int l2, .int l3, .int l4] (xW g a tx E σ) (kPi (xW g a tx E) Q) := by
  refine kCt.of (lv0 := [(0, .ref (a b)), (1, .ref T.1), (2, .int l2), (3, .int l3), (4, .int l4)]) (by decide +kernel) (Nat.le_of_ble_eq_true rfl) rfl (fun z hl hg hA F R => ?_)
  subst hl hg hA
  have F : kF z cX0_says RX0 9 { frames := 1, cells := 0, slots := 0, locals := 80 } := F
  unfold wX0_says at h
  refine g_aload_n F dX0_says_0 1 rfl ?_
  refine g_iload_n F dX0_says_1 2 rfl ?_
  refine rX0_X3_codeOf F hT dX0_says_2 rfl h (fun r2 hr2 s1 h => ?_)
  refine g_astore (lv' := [(5, .ref r2.1), (0, .ref (a b)), (1, .ref T.1), (2, .int l2), (3, .int l3), (4, .int l4)]) F dX0_says_5 rfl rfl ?_
  refine g_iconst (v := (0 : Int32)) F dX0_says_7 (by decide) ?_
  refine g_istore (lv' := [(6, .int (0 : Int32)), (5, .ref r2.1), (0, .ref (a b)), (1, .ref T.1), (2, .int l2), (3, .int l3), (4, .int l4)]) F dX0_says_8 rfl rfl ?_
  refine g_iconst (v := (0 : Int32)) F dX0_says_10 (by decide) ?_
  refine g_istore (lv' := [(7, .int (0 : Int32)), (6, .int (0 : Int32)), (5, .ref r2.1), (0, .ref (a b)), (1, .ref T.1), (2, .int l2), (3, .int l3), (4, .int l4)]) F dX0_says_11 rfl rfl ?_
  exact g_sub [3, 5, 6, 7, 2, 1, 0] rfl (sX0_says_13 F R hb hT hr2 h)
