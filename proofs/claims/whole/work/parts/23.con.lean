set_option maxRecDepth 20000 in
theorem sX5_text_14 {z : kZ} {a : Nat → Nat} {E : va_W}  {Q : Int32 → kS → Prop} {l1 : Int32} {σ : kS} (F : kF z cX5_text RX5 2 { frames := 42, cells := 0, slots := 0, locals := 970 }) (R : kR z (some .int) 0 0 (kPi (mW (zg z) a E) Q)) (h : wX5_text_14 Q l1 σ) : kV z (mW (zg z) a E σ) 0 0 14 [(0, .ref (a 0)), (1, .int l1)] [] := by
  unfold wX5_text_14 at h
  refine h (fun σ l1 => kV z (mW (zg z) a E σ) 0 0 14 [(0, .ref (a 0)), (1, .int l1)] []) (fun σ l1 h => ?_)
  refine g_iload_n F dX5_text_14 1 rfl ?_
  refine g_aload_n F dX5_text_15 0 rfl ?_
  refine rgX5_X5_taped F dX5_text_16 ?_
  refine g_icmp_ge F dX5_text_19 (tgt := 49) (by decide) (fun c2 => ?_) (fun c2 => ?_)
  · replace h := h.1 c2
    refine g_aload_n F dX5_text_49 0 rfl ?_
    refine rgX5_X5_textSize F dX5_text_50 ?_
    refine g_aload_n F dX5_text_53 0 rfl ?_
    refine rgX5_X5_textCount F dX5_text_54 ?_
    refine g_aload_n F dX5_text_57 0 rfl ?_
    refine rgX5_X5_taped F dX5_text_58 ?_
    obtain ⟨hc, h⟩ := h
    refine g_iast (wf := mW (zg z) a E) F mA2 hc dX5_text_61 ?_
    refine g_name (wf := mW (zg z) a E) (fun s3 es3 => ?_)
    replace h := h s3 es3
    refine g_aload_n F dX5_text_62 0 rfl ?_
    refine g_iconst (v := (0 : Int32)) F dX5_text_63 (by decide) ?_
    refine rpX5_X5_taped F dX5_text_64 ?_
    refine g_name (wf := mW (zg z) a E) (fun s4 es4 => ?_)
    replace h := h s4 es4
    refine g_aload_n F dX5_text_67 0 rfl ?_
    refine g_aload_n F dX5_text_68 0 rfl ?_
    refine rgX5_X5_textCount F dX5_text_69 ?_
    refine g_iconst (v := (0 : Int32)) F dX5_text_72 (by decide) ?_
    refine rX5_X5_read F dX5_text_73 rfl h (fun r6 s5 h => ?_)
    refine g_istore_n (lv' := [(1, .int r6), (0, .ref (a 0))]) F dX5_text_76 rfl rfl ?_
    refine g_aload_n F dX5_text_77 1 rfl ?_
    refine rgX5_X5_bad F dX5_text_78 ?_
    refine g_if_eq F dX5_text_81 (tgt := 92) (by decide) (fun c7 => ?_) (fun c7 => ?_)
    · replace h := h.1 c7
      refine g_aload_n F dX5_text_92 1 rfl ?_
      refine g_dup F dX5_text_93 rfl ?_
      refine rgX5_X5_textCount F dX5_text_94 ?_
      refine g_iconst (v := (1 : Int32)) F dX5_text_97 (by decide) ?_
      refine g_iadd F dX5_text_98 ?_
      refine rpX5_X5_textCount F dX5_text_99 ?_
      refine g_name (wf := mW (zg z) a E) (fun s8 es8 => ?_)
      replace h := h s8 es8
      refine g_aload_n F dX5_text_102 1 rfl ?_
      refine rgX5_X5_textCount F dX5_text_103 ?_
      refine g_iconst (v := (1 : Int32)) F dX5_text_106 (by decide) ?_
      refine g_isub F dX5_text_107 ?_
      exact g_iret F R rfl rfl dX5_text_108 ⟨_, _, rfl, rfl, h⟩
    replace h := h.2 c7
    refine g_bipush (v := (-100 : Int32)) F dX5_text_84 (by decide) ?_
    refine g_aload_n F dX5_text_86 1 rfl ?_
    refine rgX5_X5_fault F dX5_text_87 ?_
    refine g_isub F dX5_text_90 ?_
    exact g_iret F R rfl rfl dX5_text_91 ⟨_, _, rfl, rfl, h⟩
  replace h := h.2 c2
  refine g_aload_n F dX5_text_22 0 rfl ?_
  refine rgX5_X5_texts F dX5_text_23 ?_
  refine g_sipush (v := (160 : Int32)) F dX5_text_26 (by decide) ?_
  refine g_aload_n F dX5_text_29 0 rfl ?_
  refine rgX5_X5_textCount F dX5_text_30 ?_
  refine g_imul F dX5_text_33 ?_
  refine g_iload_n F dX5_text_34 1 rfl ?_
  refine g_iadd F dX5_text_35 ?_
  refine g_aload_n F dX5_text_36 0 rfl ?_
  refine rgX5_X5_tape F dX5_text_37 ?_
  refine g_iload_n F dX5_text_40 1 rfl ?_
  obtain ⟨hc, h⟩ := h
  refine g_iald (wf := mW (zg z) a E) F mA3 hc dX5_text_41 ?_
  obtain ⟨hc, h⟩ := h
  refine g_iast (wf := mW (zg z) a E) F mA1 hc dX5_text_42 ?_
  refine g_name (wf := mW (zg z) a E) (fun s9 es9 => ?_)
  replace h := h s9 es9
  obtain ⟨x10, ex10⟩ : ∃ q : Int32, q = l1 + (1 : Int32) := ⟨_, rfl⟩
  replace h := h x10 ex10
  refine g_iinc (lv' := [(1, .int x10), (0, .ref (a 0))]) (d := (1 : Int32)) F dX5_text_43 rfl 1 rfl (by decide) ex10.symm rfl ?_
  refine g_goto F dX5_text_46 (tgt := 14) (by decide) ?_
  exact (g_sub [1, 0] rfl h)
set_option maxRecDepth 20000 in
theorem ctX5_text (l : Launch) (g : kG) (A : Nat → Prop) (a : Nat → Nat) (E : va_W) {σ : kS} {Q : Int32 → kS → Prop} (h : wX5_text σ Q) : kCt l yX5_text cX5_text 2 (some .int) 42 970 0 0 g A [.ref (a 0)] (mW g a E σ) (kPi (mW g a E) Q) := by
  refine kCt.of (lv0 := [(0, .ref (a 0))]) (by decide +kernel) (Nat.le_of_ble_eq_true rfl) rfl (fun z hl hg hA F R => ?_)
  subst hl hg hA
  have F : kF z cX5_text RX5 2 { frames := 42, cells := 0, slots := 0, locals := 970 } := F
  unfold wX5_text at h
  refine g_aload_n F dX5_text_0 0 rfl ?_
  refine rgX5_X5_textCount F dX5_text_1 ?_
  refine g_bipush (v := (6 : Int32)) F dX5_text_4 (by decide) ?_
  refine g_icmp_ne F dX5_text_6 (tgt := 12) (by decide) (fun c1 => ?_) (fun c1 => ?_)
  · replace h := h.1 c1
    refine g_iconst (v := (0 : Int32)) F dX5_text_12 (by decide) ?_
    refine g_istore_n (lv' := [(1, .int (0 : Int32)), (0, .ref (a 0))]) F dX5_text_13 rfl rfl ?_
    exact g_sub [1, 0] rfl (sX5_text_14 F R h)
  replace h := h.2 c1
  refine g_bipush (v := (-4 : Int32)) F dX5_text_9 (by decide) ?_
  exact g_iret F R rfl rfl dX5_text_11 ⟨_, _, rfl, rfl, h⟩
set_option maxRecDepth 20000 in
theorem ctX5_force (l : Launch) (g : kG) (A : Nat → Prop) (a : Nat → Nat) (E : va_W) {l1 : Int32} {σ : kS} {Q : Int32 → kS → Prop} (h : wX5_force l1 σ Q) : kCt l yX5_force cX5_force 3 (some .int) 1 65 0 0 g A [.ref (a 0), .int l1] (mW g a E σ) (kPi (mW g a E) Q) := by
  refine kCt.of (lv0 := [(0, .ref (a 0)), (1, .int l1)]) (by decide +kernel) (Nat.le_of_ble_eq_true rfl) rfl (fun z hl hg hA F R => ?_)
  subst hl hg hA
  have F : kF z cX5_force RX5 3 { frames := 1, cells := 0, slots := 0, locals := 65 } := F
  unfold wX5_force at h
  refine g_iload_n F dX5_force_0 1 rfl ?_
  refine g_i2l F dX5_force_1 ?_
  refine g_lconst (v := (0 : Int64)) F dX5_force_2 (by decide) ?_
  refine g_aload_n F dX5_force_3 0 rfl ?_
  refine rgX5_X5_textCount F dX5_force_4 ?_
  refine g_iconst (v := (1 : Int32)) F dX5_force_7 (by decide) ?_
  refine g_isub F dX5_force_8 ?_
  refine g_i2l F dX5_force_9 ?_
  refine rX5_X5_in F dX5_force_10 rfl h (fun r1 h => ?_)
  refine g_if_ne F dX5_force_13 (tgt := 19) (by decide) (fun c2 => ?_) (fun c2 => ?_)
  · replace h := h.1 c2
    refine g_aload_n F dX5_force_19 0 rfl ?_
    refine rgX5_X5_rule F dX5_force_20 ?_
    refine g_topi (fun x3 ex3 => ?_)
    replace h := h x3 ex3
    refine g_istore_n (lv' := [(2, .int x3), (0, .ref (a 0)), (1, .int l1)]) F dX5_force_23 rfl rfl ?_
    refine g_aload_n F dX5_force_24 1 rfl ?_
    refine g_iload_n F dX5_force_25 2 rfl ?_
    refine rpX5_X5_rule F dX5_force_26 ?_
    refine g_name (wf := mW (zg z) a E) (fun s4 es4 => ?_)
    replace h := h s4 es4
    refine g_iload_n F dX5_force_29 0 rfl ?_
    exact g_iret F R rfl rfl dX5_force_30 ⟨_, _, rfl, rfl, h⟩
  replace h := h.2 c2
  refine g_bipush (v := (-2 : Int32)) F dX5_force_16 (by decide) ?_
  exact g_iret F R rfl rfl dX5_force_18 ⟨_, _, rfl, rfl, h⟩
set_option maxRecDepth 20000 in
theorem sX5_standOn_4 {z : kZ} {a : Nat → Nat} {E : va_W}  {Q : Int32 → kS → Prop} {l1 : Int32} {l2 : Int32} {l3 : Int32} {σ : kS} (F : kF z cX5_standOn RX5 4 { frames := 0, cells := 0, slots := 0, locals := 40 }) (R : kR z (some .int) 0 0 (kPi (mW (zg z) a E) Q)) (h : wX5_standOn_4 Q l1 l2 l3 σ) : kV z (mW (zg z) a E σ) 0 0 4 [(0, .ref (a 0)), (1, .int l1), (2, .int l2), (3, .int l3)] [] := by
  unfold wX5_standOn_4 at h
  refine h (fun l2 l3 => kV z (mW (zg z) a E σ) 0 0 4 [(0, .ref (a 0)), (1, .int l1), (2, .int l2), (3, .int l3)] []) (fun l2 l3 h => ?_)
  refine g_iload_n F dX5_standOn_4 3 rfl ?_
  refine g_aload_n F dX5_standOn_5 0 rfl ?_
  refine rgX5_X5_many F dX5_standOn_6 ?_
  refine g_icmp_ge F dX5_standOn_9 (tgt := 40) (by decide) (fun c1 => ?_) (fun c1 => ?_)
  · replace h := h.1 c1
    refine g_iload_n F dX5_standOn_40 2 rfl ?_
    exact g_iret F R rfl rfl dX5_standOn_41 ⟨_, _, rfl, rfl, h⟩
  replace h := h.2 c1
  refine g_iload_n F dX5_standOn_12 2 rfl ?_
  refine g_aload_n F dX5_standOn_13 0 rfl ?_
  refine rgX5_X5_rows F dX5_standOn_14 ?_
  refine g_iconst (v := (3 : Int32)) F dX5_standOn_17 (by decide) ?_
  refine g_iload_n F dX5_standOn_18 3 rfl ?_
  refine g_imul F dX5_standOn_19 ?_
  refine g_iconst (v := (1 : Int32)) F dX5_standOn_20 (by decide) ?_
  refine g_iadd F dX5_standOn_21 ?_
  obtain ⟨hc, h⟩ := h
  refine g_iald (wf := mW (zg z) a E) F mA6 hc dX5_standOn_22 ?_
  refine g_iload_n F dX5_standOn_23 1 rfl ?_
  refine g_icmp_ne F dX5_standOn_24 (tgt := 31) (by decide) (fun c2 => ?_) (fun c2 => ?_)
  · replace h := h.1 c2
    refine g_iconst (v := (0 : Int32)) F dX5_standOn_31 (by decide) ?_
    refine g_iadd F dX5_standOn_32 ?_
    refine g_topi (fun x3 ex3 => ?_)
    replace h := h x3 ex3
    refine g_istore_n (lv' := [(2, .int x3), (0, .ref (a 0)), (1, .int l1), (3, .int l3)]) F dX5_standOn_33 rfl rfl ?_
    obtain ⟨x4, ex4⟩ : ∃ q : Int32, q = l3 + (1 : Int32) := ⟨_, rfl⟩
    replace h := h x4 ex4
    refine g_iinc (lv' := [(3, .int x4), (2, .int x3), (0, .ref (a 0)), (1, .int l1)]) (d := (1 : Int32)) F dX5_standOn_34 rfl 3 rfl (by decide) ex4.symm rfl ?_
    refine g_goto F dX5_standOn_37 (tgt := 4) (by decide) ?_
    exact (g_sub [2, 3, 1, 0] rfl h)
  replace h := h.2 c2
  refine g_iconst (v := (1 : Int32)) F dX5_standOn_27 (by decide) ?_
  refine g_goto F dX5_standOn_28 (tgt := 32) (by decide) ?_
  refine g_iadd F dX5_standOn_32 ?_
  refine g_topi (fun x5 ex5 => ?_)
  replace h := h x5 ex5
  refine g_istore_n (lv' := [(2, .int x5), (0, .ref (a 0)), (1, .int l1), (3, .int l3)]) F dX5_standOn_33 rfl rfl ?_
  obtain ⟨x6, ex6⟩ : ∃ q : Int32, q = l3 + (1 : Int32) := ⟨_, rfl⟩
  replace h := h x6 ex6
  refine g_iinc (lv' := [(3, .int x6), (2, .int x5), (0, .ref (a 0)), (1, .int l1)]) (d := (1 : Int32)) F dX5_standOn_34 rfl 3 rfl (by decide) ex6.symm rfl ?_
  refine g_goto F dX5_standOn_37 (tgt := 4) (by decide) ?_
  exact (g_sub [2, 3, 1, 0] rfl h)
set_option maxRecDepth 20000 in
theorem ctX5_standOn (l : Launch) (g : kG) (A : Nat → Prop) (a : Nat → Nat) (E : va_W) {l1 : Int32} {σ : kS} {Q : Int32 → kS → Prop} (h : wX5_standOn l1 σ Q) : kCt l yX5_standOn cX5_standOn 4 (some .int) 0 40 0 0 g A [.ref (a 0), .int l1] (mW g a E σ) (kPi (mW g a E) Q) := by
  refine kCt.of (lv0 := [(0, .ref (a 0)), (1, .int l1)]) (by decide +kernel) (Nat.le_of_ble_eq_true rfl) rfl (fun z hl hg hA F R => ?_)
  subst hl hg hA
  have F : kF z cX5_standOn RX5 4 { frames := 0, cells := 0, slots := 0, locals := 40 } := F
  unfold wX5_standOn at h
  refine g_iconst (v := (0 : Int32)) F dX5_standOn_0 (by decide) ?_
  refine g_istore_n (lv' := [(2, .int (0 : Int32)), (0, .ref (a 0)), (1, .int l1)]) F dX5_standOn_1 rfl rfl ?_
  refine g_iconst (v := (0 : Int32)) F dX5_standOn_2 (by decide) ?_
  refine g_istore_n (lv' := [(3, .int (0 : Int32)), (2, .int (0 : Int32)), (0, .ref (a 0)), (1, .int l1)]) F dX5_standOn_3 rfl rfl ?_
  exact g_sub [2, 3, 1, 0] rfl (sX5_standOn_4 F R h)
theorem plX5_standOn : kPlain yX5_standOn 1 = true := by decide +kernel
theorem rX5_X5_standOn {z : kZ} {cc : ByteArray} {nL : Nat} {rm : Room} {c n pc : Nat} {lv : List (Nat × Value)} {st : List Value} {a : Nat → Nat} {E : va_W} {σ : kS} {l1 : Int32} {Q : Int32 → kS → Prop} (F : kF z cc RX5 nL rm) (hd : decode cc pc = .ok (.invokevirtual 338, 3)) (hf : kFits rm 0 40 0 0 4 c n st = true) (h : wX5_standOn l1 σ Q) (k : ∀ (v : Int32) (σ' : kS), Q v σ' → kV z (mW (zg z) a E σ') c n (pc + 3) lv (.int v :: st)) : kV z (mW (zg z) a E σ) c n pc lv (.int l1 :: .ref (a 0) :: st) := by
  exact g_callV F (av := [.int l1]) (ctX5_standOn _ _ _ a E h) (ci := 5) (q0 := 0) rfl rfl rfl wq1218 wq1220 wq94 wq114 wq1221 plX5_standOn hd hf (fun r ws' hq => by
    obtain ⟨v, σ', rfl, rfl, hq⟩ := hq
    exact k v σ' hq)
set_option maxRecDepth 20000 in
theorem ctX5_asks (l : Launch) (g : kG) (A : Nat → Prop) (a : Nat → Nat) (E : va_W) {l1 : Int32} {l2 : Int32} {σ : kS} {Q : Int32 → kS → Prop} (h : wX5_asks l1 l2 σ Q) : kCt l yX5_asks cX5_asks 3 (some .int) 43 993 0 0 g A [.ref (a 0), .int l1, .int l2] (mW g a E σ) (kPi (mW g a E) Q) := by
  refine kCt.of (lv0 := [(0, .ref (a 0)), (1, .int l1), (2, .int l2)]) (by decide +kernel) (Nat.le_of_ble_eq_true rfl) rfl (fun z hl hg hA F R => ?_)
  subst hl hg hA
  have F : kF z cX5_asks RX5 3 { frames := 43, cells := 0, slots := 0, locals := 993 } := F
  unfold wX5_asks at h
  refine g_iload_n F dX5_asks_0 1 rfl ?_
  refine g_i2l F dX5_asks_1 ?_
  refine g_lconst (v := (0 : Int64)) F dX5_asks_2 (by decide) ?_
  refine g_lconst (v := (1 : Int64)) F dX5_asks_3 (by decide) ?_
  refine rX5_X5_in F dX5_asks_4 rfl h (fun r1 h => ?_)
  refine g_if_eq F dX5_asks_7 (tgt := 31) (by decide) (fun c2 => ?_) (fun c2 => ?_)
  · replace h := h.1 c2
    refine g_bipush (v := (-2 : Int32)) F dX5_asks_31 (by decide) ?_
    exact g_iret F R rfl rfl dX5_asks_33 ⟨_, _, rfl, rfl, h⟩
  replace h := h.2 c2
  refine g_iload_n F dX5_asks_10 2 rfl ?_
  refine rX5_X5_isCell F dX5_asks_11 rfl h (fun r3 h => ?_)
  refine g_if_eq F dX5_asks_14 (tgt := 31) (by decide) (fun c4 => ?_) (fun c4 => ?_)
  · replace h := h.1 c4
    refine g_bipush (v := (-2 : Int32)) F dX5_asks_31 (by decide) ?_
    exact g_iret F R rfl rfl dX5_asks_33 ⟨_, _, rfl, rfl, h⟩
  replace h := h.2 c4
  refine g_aload_n F dX5_asks_17 0 rfl ?_
  refine g_iload_n F dX5_asks_18 1 rfl ?_
  refine g_iload_n F dX5_asks_19 2 rfl ?_
  refine g_aload_n F dX5_asks_20 0 rfl ?_
  refine g_iload_n F dX5_asks_21 2 rfl ?_
  refine rX5_X5_standOn F dX5_asks_22 rfl h (fun r6 s5 h => ?_)
  refine rX5_X5_says F dX5_asks_25 rfl h (fun r8 s7 h => ?_)
  refine g_goto F dX5_asks_28 (tgt := 33) (by decide) ?_
  exact g_iret F R rfl rfl dX5_asks_33 ⟨_, _, rfl, rfl, h⟩
set_option maxRecDepth 20000 in
theorem sX5_isHeld_2 {z : kZ} {a : Nat → Nat} {E : va_W}  {Q : Int32 → kS → Prop} {l1 : Int32} {l2 : Int32} {σ : kS} (F : kF z cX5_isHeld RX5 3 { frames := 0, cells := 0, slots := 0, locals := 40 }) (R : kR z (some .boolean) 0 0 (kPi (mW (zg z) a E) Q)) (h : wX5_isHeld_2 Q l1 l2 σ) : kV z (mW (zg z) a E σ) 0 0 2 [(0, .ref (a 0)), (1, .int l1), (2, .int l2)] [] := by
  unfold wX5_isHeld_2 at h
  refine h (fun l2 => kV z (mW (zg z) a E σ) 0 0 2 [(0, .ref (a 0)), (1, .int l1), (2, .int l2)] []) (fun l2 h => ?_)
  refine g_iload_n F dX5_isHeld_2 2 rfl ?_
  refine g_aload_n F dX5_isHeld_3 0 rfl ?_
  refine rgX5_X5_many F dX5_isHeld_4 ?_
  refine g_icmp_ge F dX5_isHeld_7 (tgt := 56) (by decide) (fun c1 => ?_) (fun c1 => ?_)
  · replace h := h.1 c1
    refine g_iconst (v := (0 : Int32)) F dX5_isHeld_56 (by decide) ?_
    exact g_zret F R rfl rfl rfl dX5_isHeld_57 ⟨_, _, rfl, rfl, h⟩
  replace h := h.2 c1
  refine g_aload_n F dX5_isHeld_10 0 rfl ?_
  refine rgX5_X5_kinds F dX5_isHeld_11 ?_
  refine g_iload_n F dX5_isHeld_14 2 rfl ?_
  obtain ⟨hc, h⟩ := h
  refine g_iald (wf := mW (zg z) a E) F mA5 hc dX5_isHeld_15 ?_
  refine g_iconst (v := (5 : Int32)) F dX5_isHeld_16 (by decide) ?_
  refine g_icmp_ne F dX5_isHeld_17 (tgt := 50) (by decide) (fun c2 => ?_) (fun c2 => ?_)
  · replace h := h.1 c2
    obtain ⟨x3, ex3⟩ : ∃ q : Int32, q = l2 + (1 : Int32) := ⟨_, rfl⟩
    replace h := h x3 ex3
    refine g_iinc (lv' := [(2, .int x3), (0, .ref (a 0)), (1, .int l1)]) (d := (1 : Int32)) F dX5_isHeld_50 rfl 2 rfl (by decide) ex3.symm rfl ?_
    refine g_goto F dX5_isHeld_53 (tgt := 2) (by decide) ?_
    exact (g_sub [1, 2, 0] rfl h)
  replace h := h.2 c2
  refine g_aload_n F dX5_isHeld_20 0 rfl ?_
  refine rgX5_X5_rows F dX5_isHeld_21 ?_
  refine g_iconst (v := (3 : Int32)) F dX5_isHeld_24 (by decide) ?_
  refine g_iload_n F dX5_isHeld_25 2 rfl ?_
  refine g_imul F dX5_isHeld_26 ?_
  refine g_iconst (v := (2 : Int32)) F dX5_isHeld_27 (by decide) ?_
  refine g_iadd F dX5_isHeld_28 ?_
  obtain ⟨hc, h⟩ := h
  refine g_iald (wf := mW (zg z) a E) F mA6 hc dX5_isHeld_29 ?_
  refine g_iconst (v := (1 : Int32)) F dX5_isHeld_30 (by decide) ?_
  refine g_icmp_ne F dX5_isHeld_31 (tgt := 50) (by decide) (fun c4 => ?_) (fun c4 => ?_)
  · replace h := h.1 c4
    obtain ⟨x5, ex5⟩ : ∃ q : Int32, q = l2 + (1 : Int32) := ⟨_, rfl⟩
    replace h := h x5 ex5
    refine g_iinc (lv' := [(2, .int x5), (0, .ref (a 0)), (1, .int l1)]) (d := (1 : Int32)) F dX5_isHeld_50 rfl 2 rfl (by decide) ex5.symm rfl ?_
    refine g_goto F dX5_isHeld_53 (tgt := 2) (by decide) ?_
    exact (g_sub [1, 2, 0] rfl h)
  replace h := h.2 c4
  refine g_aload_n F dX5_isHeld_34 0 rfl ?_
  refine rgX5_X5_rows F dX5_isHeld_35 ?_
  refine g_iconst (v := (3 : Int32)) F dX5_isHeld_38 (by decide) ?_
  refine g_iload_n F dX5_isHeld_39 2 rfl ?_
  refine g_imul F dX5_isHeld_40 ?_
  refine g_iconst (v := (1 : Int32)) F dX5_isHeld_41 (by decide) ?_
  refine g_iadd F dX5_isHeld_42 ?_
  obtain ⟨hc, h⟩ := h
  refine g_iald (wf := mW (zg z) a E) F mA6 hc dX5_isHeld_43 ?_
  refine g_iload_n F dX5_isHeld_44 1 rfl ?_
  refine g_icmp_ne F dX5_isHeld_45 (tgt := 50) (by decide) (fun c6 => ?_) (fun c6 => ?_)
  · replace h := h.1 c6
    obtain ⟨x7, ex7⟩ : ∃ q : Int32, q = l2 + (1 : Int32) := ⟨_, rfl⟩
    replace h := h x7 ex7
    refine g_iinc (lv' := [(2, .int x7), (0, .ref (a 0)), (1, .int l1)]) (d := (1 : Int32)) F dX5_isHeld_50 rfl 2 rfl (by decide) ex7.symm rfl ?_
    refine g_goto F dX5_isHeld_53 (tgt := 2) (by decide) ?_
    exact (g_sub [1, 2, 0] rfl h)
  replace h := h.2 c6
  refine g_iconst (v := (1 : Int32)) F dX5_isHeld_48 (by decide) ?_
  exact g_zret F R rfl rfl rfl dX5_isHeld_49 ⟨_, _, rfl, rfl, h⟩
set_option maxRecDepth 20000 in
theorem ctX5_isHeld (l : Launch) (g : kG) (A : Nat → Prop) (a : Nat → Nat) (E : va_W) {l1 : Int32} {σ : kS} {Q : Int32 → kS → Prop} (h : wX5_isHeld l1 σ Q) : kCt l yX5_isHeld cX5_isHeld 3 (some .boolean) 0 40 0 0 g A [.ref (a 0), .int l1] (mW g a E σ) (kPi (mW g a E) Q) := by
  refine kCt.of (lv0 := [(0, .ref (a 0)), (1, .int l1)]) (by decide +kernel) (Nat.le_of_ble_eq_true rfl) rfl (fun z hl hg hA F R => ?_)
  subst hl hg hA
  have F : kF z cX5_isHeld RX5 3 { frames := 0, cells := 0, slots := 0, locals := 40 } := F
  unfold wX5_isHeld at h
  refine g_iconst (v := (0 : Int32)) F dX5_isHeld_0 (by decide) ?_
  refine g_istore_n (lv' := [(2, .int (0 : Int32)), (0, .ref (a 0)), (1, .int l1)]) F dX5_isHeld_1 rfl rfl ?_
  exact g_sub [1, 2, 0] rfl (sX5_isHeld_2 F R h)
set_option maxRecDepth 20000 in
theorem ctX5_levelOf (l : Launch) (g : kG) (A : Nat → Prop) (a : Nat → Nat) (E : va_W) {l1 : Int32} {σ : kS} {Q : Int32 → kS → Prop} (h : wX5_levelOf l1 σ Q) : kCt l yX5_levelOf cX5_levelOf 2 (some .int) 0 40 0 0 g A [.ref (a 0), .int l1] (mW g a E σ) (kPi (mW g a E) Q) := by
  refine kCt.of (lv0 := [(0, .ref (a 0)), (1, .int l1)]) (by decide +kernel) (Nat.le_of_ble_eq_true rfl) rfl (fun z hl hg hA F R => ?_)
  subst hl hg hA
  have F : kF z cX5_levelOf RX5 2 { frames := 0, cells := 0, slots := 0, locals := 40 } := F
  unfold wX5_levelOf at h
  refine g_aload_n F dX5_levelOf_0 0 rfl ?_
  refine rgX5_X5_fen F dX5_levelOf_1 ?_
  refine g_iconst (v := (3 : Int32)) F dX5_levelOf_4 (by decide) ?_
  refine g_iload_n F dX5_levelOf_5 1 rfl ?_
  refine g_imul F dX5_levelOf_6 ?_
  obtain ⟨hc, h⟩ := h
  refine g_iald (wf := mW (zg z) a E) F mA4 hc dX5_levelOf_7 ?_
  refine g_aload_n F dX5_levelOf_8 0 rfl ?_
  refine rgX5_X5_fen F dX5_levelOf_9 ?_
  refine g_iconst (v := (3 : Int32)) F dX5_levelOf_12 (by decide) ?_
  refine g_iload_n F dX5_levelOf_13 1 rfl ?_
  refine g_imul F dX5_levelOf_14 ?_
  refine g_iconst (v := (2 : Int32)) F dX5_levelOf_15 (by decide) ?_
  refine g_iadd F dX5_levelOf_16 ?_
  obtain ⟨hc, h⟩ := h
  refine g_iald (wf := mW (zg z) a E) F mA4 hc dX5_levelOf_17 ?_
  refine g_iadd F dX5_levelOf_18 ?_
  exact g_iret F R rfl rfl dX5_levelOf_19 ⟨_, _, rfl, rfl, h⟩
set_option maxRecDepth 20000 in
theorem ctX5_adds (l : Launch) (g : kG) (A : Nat → Prop) (a : Nat → Nat) (E : va_W) {l1 : Int32} {l2 : Int32} {σ : kS} {Q : kS → Prop} (h : wX5_adds l1 l2 σ Q) : kCt l yX5_adds cX5_adds 3 none 1 62 0 0 g A [.ref (a 0), .int l1, .int l2] (mW g a E σ) (kPv (mW g a E) Q) := by
  refine kCt.of (lv0 := [(0, .ref (a 0)), (1, .int l1), (2, .int l2)]) (by decide +kernel) (Nat.le_of_ble_eq_true rfl) rfl (fun z hl hg hA F R => ?_)
  subst hl hg hA
  have F : kF z cX5_adds RX5 3 { frames := 1, cells := 0, slots := 0, locals := 62 } := F
  unfold wX5_adds at h
  refine g_aload_n F dX5_adds_0 0 rfl ?_
  refine rgX5_X5_fen F dX5_adds_1 ?_
  refine g_iconst (v := (3 : Int32)) F dX5_adds_4 (by decide) ?_
  refine g_iload_n F dX5_adds_5 1 rfl ?_
  refine g_imul F dX5_adds_6 ?_
  refine g_iconst (v := (2 : Int32)) F dX5_adds_7 (by decide) ?_
  refine g_iadd F dX5_adds_8 ?_
  refine g_aload_n F dX5_adds_9 0 rfl ?_
  refine rgX5_X5_fen F dX5_adds_10 ?_
  refine g_iconst (v := (3 : Int32)) F dX5_adds_13 (by decide) ?_
  refine g_iload_n F dX5_adds_14 1 rfl ?_
  refine g_imul F dX5_adds_15 ?_
  refine g_iconst (v := (2 : Int32)) F dX5_adds_16 (by decide) ?_
  refine g_iadd F dX5_adds_17 ?_
  obtain ⟨hc, h⟩ := h
  refine g_iald (wf := mW (zg z) a E) F mA4 hc dX5_adds_18 ?_
  refine g_iload_n F dX5_adds_19 2 rfl ?_
  refine g_iadd F dX5_adds_20 ?_
  refine g_iconst (v := (0 : Int32)) F dX5_adds_21 (by decide) ?_
  refine g_sipush (v := (999 : Int32)) F dX5_adds_22 (by decide) ?_
  refine rX5_X5_within F dX5_adds_25 rfl h (fun r1 h => ?_)
  obtain ⟨hc, h⟩ := h
  refine g_iast (wf := mW (zg z) a E) F mA4 hc dX5_adds_28 ?_
  refine g_name (wf := mW (zg z) a E) (fun s2 es2 => ?_)
  replace h := h s2 es2
  exact g_vret F R rfl rfl dX5_adds_29 ⟨_, rfl, rfl, h⟩
set_option maxRecDepth 20000 in
theorem ctX5_draws (l : Launch) (g : kG) (A : Nat → Prop) (a : Nat → Nat) (E : va_W) {l1 : Int32} {l2 : Int32} {σ : kS} {Q : kS → Prop} (h : wX5_draws l1 l2 σ Q) : kCt l yX5_draws cX5_draws 3 none 2 85 0 0 g A [.ref (a 0), .int l1, .int l2] (mW g a E σ) (kPv (mW g a E) Q) := by
  refine kCt.of (lv0 := [(0, .ref (a 0)), (1, .int l1), (2, .int l2)]) (by decide +kernel) (Nat.le_of_ble_eq_true rfl) rfl (fun z hl hg hA F R => ?_)
  subst hl hg hA
  have F : kF z cX5_draws RX5 3 { frames := 2, cells := 0, slots := 0, locals := 85 } := F
  unfold wX5_draws at h
  refine g_iload_n F dX5_draws_0 2 rfl ?_
  refine rX5_X5_isCell F dX5_draws_1 rfl h (fun r1 h => ?_)
  refine g_if_eq F dX5_draws_4 (tgt := 26) (by decide) (fun c2 => ?_) (fun c2 => ?_)
  · replace h := h.1 c2
    exact g_vret F R rfl rfl dX5_draws_26 ⟨_, rfl, rfl, h⟩
  replace h := h.2 c2
  refine g_aload_n F dX5_draws_7 0 rfl ?_
  refine rgX5_X5_fen F dX5_draws_8 ?_
  refine g_iconst (v := (3 : Int32)) F dX5_draws_11 (by decide) ?_
  refine g_iload_n F dX5_draws_12 2 rfl ?_
  refine g_imul F dX5_draws_13 ?_
  refine g_iconst (v := (2 : Int32)) F dX5_draws_14 (by decide) ?_
  refine g_iadd F dX5_draws_15 ?_
  refine g_dup2_11 F dX5_draws_16 rfl rfl ?_
  obtain ⟨hc, h⟩ := h
  refine g_iald (wf := mW (zg z) a E) F mA4 hc dX5_draws_17 ?_
  refine g_aload_n F dX5_draws_18 0 rfl ?_
  refine g_iload_n F dX5_draws_19 1 rfl ?_
  refine g_iload_n F dX5_draws_20 2 rfl ?_
  refine rX5_X5_drawsOf F dX5_draws_21 rfl h (fun r4 s3 h => ?_)
  refine g_isub F dX5_draws_24 ?_
  obtain ⟨hc, h⟩ := h
  refine g_iast (wf := mW (zg z) a E) F mA4 hc dX5_draws_25 ?_
  refine g_name (wf := mW (zg z) a E) (fun s5 es5 => ?_)
  replace h := h s5 es5
  exact g_vret F R rfl rfl dX5_draws_26 ⟨_, rfl, rfl, h⟩
theorem plX5_adds : kPlain yX5_adds 2 = true := by decide +kernel
theorem rX5_X5_adds {z : kZ} {cc : ByteArray} {nL : Nat} {rm : Room} {c n pc : Nat} {lv : List (Nat × Value)} {st : List Value} {a : Nat → Nat} {E : va_W} {σ : kS} {l1 : Int32} {l2 : Int32} {Q : kS → Prop} (F : kF z cc RX5 nL rm) (hd : decode cc pc = .ok (.invokevirtual 344, 3)) (hf : kFits rm 1 62 0 0 3 c n st = true) (h : wX5_adds l1 l2 σ Q) (k : ∀ σ' : kS, Q σ' → kV z (mW (zg z) a E σ') c n (pc + 3) lv st) : kV z (mW (zg z) a E σ) c n pc lv (.int l2 :: .int l1 :: .ref (a 0) :: st) := by
  exact g_callV F (av := [.int l1, .int l2]) (ctX5_adds _ _ _ a E h) (ci := 5) (q0 := 0) rfl rfl rfl wq1230 wq1232 wq96 wq114 wq1233 plX5_adds hd hf (fun r ws' hq => by
    obtain ⟨σ', rfl, rfl, hq⟩ := hq
    exact k σ' hq)
theorem plX5_levelOf : kPlain yX5_levelOf 1 = true := by decide +kernel
theorem rX5_X5_levelOf {z : kZ} {cc : ByteArray} {nL : Nat} {rm : Room} {c n pc : Nat} {lv : List (Nat × Value)} {st : List Value} {a : Nat → Nat} {E : va_W} {σ : kS} {l1 : Int32} {Q : Int32 → kS → Prop} (F : kF z cc RX5 nL rm) (hd : decode cc pc = .ok (.invokevirtual 348, 3)) (hf : kFits rm 0 40 0 0 2 c n st = true) (h : wX5_levelOf l1 σ Q) (k : ∀ (v : Int32) (σ' : kS), Q v σ' → kV z (mW (zg z) a E σ') c n (pc + 3) lv (.int v :: st)) : kV z (mW (zg z) a E σ) c n pc lv (.int l1 :: .ref (a 0) :: st) := by
  exact g_callV F (av := [.int l1]) (ctX5_levelOf _ _ _ a E h) (ci := 5) (q0 := 0) rfl rfl rfl wq1234 wq1236 wq97 wq114 wq1237 plX5_levelOf hd hf (fun r ws' hq => by
    obtain ⟨v, σ', rfl, rfl, hq⟩ := hq
    exact k v σ' hq)
theorem plX5_isHeld : kPlain yX5_isHeld 1 = true := by decide +kernel
theorem rX5_X5_isHeld {z : kZ} {cc : ByteArray} {nL : Nat} {rm : Room} {c n pc : Nat} {lv : List (Nat × Value)} {st : List Value} {a : Nat → Nat} {E : va_W} {σ : kS} {l1 : Int32} {Q : Int32 → kS → Prop} (F : kF z cc RX5 nL rm) (hd : decode cc pc = .ok (.invokevirtual 351, 3)) (hf : kFits rm 0 40 0 0 3 c n st = true) (h : wX5_isHeld l1 σ Q) (k : ∀ (v : Int32) (σ' : kS), Q v σ' → kV z (mW (zg z) a E σ') c n (pc + 3) lv (.int v :: st)) : kV z (mW (zg z) a E σ) c n pc lv (.int l1 :: .ref (a 0) :: st) := by
  exact g_callV F (av := [.int l1]) (ctX5_isHeld _ _ _ a E h) (ci := 5) (q0 := 0) rfl rfl rfl wq1238 wq1240 wq98 wq114 wq1241 plX5_isHeld hd hf (fun r ws' hq => by
    obtain ⟨v, σ', rfl, rfl, hq⟩ := hq
    exact k v σ' hq)
theorem plX5_draws : kPlain yX5_draws 2 = true := by decide +kernel
theorem rX5_X5_draws {z : kZ} {cc : ByteArray} {nL : Nat} {rm : Room} {c n pc : Nat} {lv : List (Nat × Value)} {st : List Value} {a : Nat → Nat} {E : va_W} {σ : kS} {l1 : Int32} {l2 : Int32} {Q : kS → Prop} (F : kF z cc RX5 nL rm) (hd : decode cc pc = .ok (.invokevirtual 354, 3)) (hf : kFits rm 2 85 0 0 3 c n st = true) (h : wX5_draws l1 l2 σ Q) (k : ∀ σ' : kS, Q σ' → kV z (mW (zg z) a E σ') c n (pc + 3) lv st) : kV z (mW (zg z) a E σ) c n pc lv (.int l2 :: .int l1 :: .ref (a 0) :: st) := by
  exact g_callV F (av := [.int l1, .int l2]) (ctX5_draws _ _ _ a E h) (ci := 5) (q0 := 0) rfl rfl rfl wq1242 wq1244 wq99 wq114 wq1245 plX5_draws hd hf (fun r ws' hq => by
    obtain ⟨σ', rfl, rfl, hq⟩ := hq
    exact k σ' hq)
set_option maxRecDepth 20000 in
theorem sX5_lives_97 {z : kZ} {a : Nat → Nat} {E : va_W}  {Q : kS → Prop} {P33 : kS → Int32 → Prop} {l1 : Int32} {ks0 : Int32} {σ : kS} (F : kF z cX5_lives RX5 5 { frames := 44, cells := 0, slots := 0, locals := 1017 }) (R : kR z none 0 0 (kPv (mW (zg z) a E) Q)) (hP33 : ∀ (σ : kS) (l1 : Int32), P33 σ l1 → kV z (mW (zg z) a E σ) 0 0 33 [(0, .ref (a 0)), (1, .int l1)] []) (h : wX5_lives_97 Q P33 l1 ks0 σ) : kV z (mW (zg z) a E σ) 0 0 97 [(0, .ref (a 0)), (1, .int l1)] [.int ks0] := by
  unfold wX5_lives_97 at h
  refine g_istore_n (lv' := [(3, .int ks0), (0, .ref (a 0)), (1, .int l1)]) F dX5_lives_97 rfl rfl ?_
  refine g_aload_n F dX5_lives_98 1 rfl ?_
  refine g_iload_n F dX5_lives_99 2 rfl ?_
  refine g_iload_n F dX5_lives_100 0 rfl ?_
  refine g_ineg F dX5_lives_101 ?_
  refine rX5_X5_adds F dX5_lives_102 rfl h (fun s38 h => ?_)
  refine g_aload_n F dX5_lives_105 1 rfl ?_
  refine g_iload_n F dX5_lives_106 2 rfl ?_
  refine g_iconst (v := (1 : Int32)) F dX5_lives_107 (by decide) ?_
  refine g_isub F dX5_lives_108 ?_
  refine g_iload_n F dX5_lives_109 0 rfl ?_
  refine rX5_X5_adds F dX5_lives_110 rfl h (fun s39 h => ?_)
  obtain ⟨x40, ex40⟩ : ∃ q : Int32, q = l1 + (-1 : Int32) := ⟨_, rfl⟩
  replace h := h x40 ex40
  refine g_iinc (lv' := [(1, .int x40), (3, .int ks0), (0, .ref (a 0))]) (d := (-1 : Int32)) F dX5_lives_113 rfl 2 rfl (by decide) ex40.symm rfl ?_
  refine g_goto F dX5_lives_116 (tgt := 33) (by decide) ?_
  exact g_sub [2, 0] rfl (hP33 _ _ h)
set_option maxRecDepth 20000 in
theorem sX5_lives_261 {z : kZ} {a : Nat → Nat} {E : va_W}  {Q : kS → Prop} {P186 : kS → Int32 → Prop} {l2 : Int32} {σ : kS} (F : kF z cX5_lives RX5 5 { frames := 44, cells := 0, slots := 0, locals := 1017 }) (R : kR z none 0 0 (kPv (mW (zg z) a E) Q)) (hP186 : ∀ (σ : kS) (l2 : Int32), P186 σ l2 → kV z (mW (zg z) a E σ) 0 0 186 [(0, .ref (a 0)), (2, .int l2)] []) (h : wX5_lives_261 Q P186 l2 σ) : kV z (mW (zg z) a E σ) 0 0 261 [(0, .ref (a 0)), (2, .int l2)] [] := by
  unfold wX5_lives_261 at h
  refine g_aload_n F dX5_lives_261 0 rfl ?_
  refine g_dup F dX5_lives_262 rfl ?_
  refine rgX5_X5_paid F dX5_lives_263 ?_
  refine g_aload_n F dX5_lives_266 0 rfl ?_
  refine g_iload_n F dX5_lives_267 1 rfl ?_
  refine rX5_X5_costsOf F dX5_lives_268 rfl h (fun r53 s52 h => ?_)
  refine g_iadd F dX5_lives_271 ?_
  refine rpX5_X5_paid F dX5_lives_272 ?_
  refine g_name (wf := mW (zg z) a E) (fun s54 es54 => ?_)
  replace h := h s54 es54
  obtain ⟨x55, ex55⟩ : ∃ q : Int32, q = l2 + (1 : Int32) := ⟨_, rfl⟩
  replace h := h x55 ex55
  refine g_iinc (lv' := [(2, .int x55), (0, .ref (a 0))]) (d := (1 : Int32)) F dX5_lives_275 rfl 1 rfl (by decide) ex55.symm rfl ?_
  refine g_goto F dX5_lives_278 (tgt := 186) (by decide) ?_
  exact g_sub [1, 0] rfl (hP186 _ _ h)
set_option maxRecDepth 20000 in
theorem sX5_lives_245 {z : kZ} {a : Nat → Nat} {E : va_W}  {Q : kS → Prop} {P186 : kS → Int32 → Prop} {l2 : Int32} {l3 : Int32} {σ : kS} (F : kF z cX5_lives RX5 5 { frames := 44, cells := 0, slots := 0, locals := 1017 }) (R : kR z none 0 0 (kPv (mW (zg z) a E) Q)) (hP186 : ∀ (σ : kS) (l2 : Int32), P186 σ l2 → kV z (mW (zg z) a E σ) 0 0 186 [(0, .ref (a 0)), (2, .int l2)] []) (h : wX5_lives_245 Q P186 l2 l3 σ) : kV z (mW (zg z) a E σ) 0 0 245 [(0, .ref (a 0)), (2, .int l2), (3, .int l3)] [] := by
  unfold wX5_lives_245 at h
  refine g_aload_n F dX5_lives_245 0 rfl ?_
  refine g_iload_n F dX5_lives_246 1 rfl ?_
  refine g_iload_n F dX5_lives_247 2 rfl ?_
  refine g_iconst (v := (1 : Int32)) F dX5_lives_248 (by decide) ?_
  refine g_isub F dX5_lives_249 ?_
  refine rX5_X5_draws F dX5_lives_250 rfl h (fun s50 h => ?_)
  refine g_aload_n F dX5_lives_253 0 rfl ?_
  refine g_iload_n F dX5_lives_254 1 rfl ?_
  refine g_iload_n F dX5_lives_255 2 rfl ?_
  refine g_iconst (v := (1 : Int32)) F dX5_lives_256 (by decide) ?_
  refine g_iadd F dX5_lives_257 ?_
  refine rX5_X5_draws F dX5_lives_258 rfl h (fun s51 h => ?_)
  exact g_sub [0, 1] rfl (sX5_lives_261 F R hP186 h)
set_option maxRecDepth 20000 in
theorem sX5_lives_370 {z : kZ} {a : Nat → Nat} {E : va_W}  {Q : kS → Prop} {P283 : kS → Int32 → Prop} {l2 : Int32} {ks0 : Int32} {σ : kS} (F : kF z cX5_lives RX5 5 { frames := 44, cells := 0, slots := 0, locals := 1017 }) (R : kR z none 0 0 (kPv (mW (zg z) a E) Q)) (hP283 : ∀ (σ : kS) (l2 : Int32), P283 σ l2 → kV z (mW (zg z) a E σ) 0 0 283 [(0, .ref (a 0)), (2, .int l2)] []) (h : wX5_lives_370 Q P283 l2 ks0 σ) : kV z (mW (zg z) a E σ) 0 0 370 [(0, .ref (a 0)), (2, .int l2)] [.int ks0] := by
  unfold wX5_lives_370 at h
  refine g_istore_n (lv' := [(3, .int ks0), (0, .ref (a 0)), (2, .int l2)]) F dX5_lives_370 rfl rfl ?_
  refine g_aload_n F dX5_lives_371 1 rfl ?_
  refine rgX5_X5_fen F dX5_lives_372 ?_
  refine g_iconst (v := (3 : Int32)) F dX5_lives_375 (by decide) ?_
  refine g_iload_n F dX5_lives_376 2 rfl ?_
  refine g_imul F dX5_lives_377 ?_
  refine g_dup2_11 F dX5_lives_378 rfl rfl ?_
  obtain ⟨hc, h⟩ := h
  refine g_iald (wf := mW (zg z) a E) F mA4 hc dX5_lives_379 ?_
  refine g_iload_n F dX5_lives_380 0 rfl ?_
  refine g_isub F dX5_lives_381 ?_
  obtain ⟨hc, h⟩ := h
  refine g_iast (wf := mW (zg z) a E) F mA4 hc dX5_lives_382 ?_
  refine g_name (wf := mW (zg z) a E) (fun s57 es57 => ?_)
  replace h := h s57 es57
  refine g_aload_n F dX5_lives_383 1 rfl ?_
  refine rgX5_X5_fen F dX5_lives_384 ?_
  refine g_iconst (v := (3 : Int32)) F dX5_lives_387 (by decide) ?_
  refine g_iload_n F dX5_lives_388 2 rfl ?_
  refine g_imul F dX5_lives_389 ?_
  refine g_iconst (v := (1 : Int32)) F dX5_lives_390 (by decide) ?_
  refine g_iadd F dX5_lives_391 ?_
  refine g_dup2_11 F dX5_lives_392 rfl rfl ?_
  obtain ⟨hc, h⟩ := h
  refine g_iald (wf := mW (zg z) a E) F mA4 hc dX5_lives_393 ?_
  refine g_iload_n F dX5_lives_394 0 rfl ?_
  refine g_isub F dX5_lives_395 ?_
  obtain ⟨hc, h⟩ := h
  refine g_iast (wf := mW (zg z) a E) F mA4 hc dX5_lives_396 ?_
  refine g_name (wf := mW (zg z) a E) (fun s58 es58 => ?_)
  replace h := h s58 es58
  obtain ⟨x59, ex59⟩ : ∃ q : Int32, q = l2 + (1 : Int32) := ⟨_, rfl⟩
  replace h := h x59 ex59
  refine g_iinc (lv' := [(2, .int x59), (3, .int ks0), (0, .ref (a 0))]) (d := (1 : Int32)) F dX5_lives_397 rfl 2 rfl (by decide) ex59.symm rfl ?_
  refine g_goto F dX5_lives_400 (tgt := 283) (by decide) ?_
  exact g_sub [2, 0] rfl (hP283 _ _ h)
set_option maxRecDepth 20000 in
theorem sX5_lives_356 {z : kZ} {a : Nat → Nat} {E : va_W}  {Q : kS → Prop} {P283 : kS → Int32 → Prop} {l2 : Int32} {l3 : Int32} {ks0 : Int32} {σ : kS} (F : kF z cX5_lives RX5 5 { frames := 44, cells := 0, slots := 0, locals := 1017 }) (R : kR z none 0 0 (kPv (mW (zg z) a E) Q)) (hP283 : ∀ (σ : kS) (l2 : Int32), P283 σ l2 → kV z (mW (zg z) a E σ) 0 0 283 [(0, .ref (a 0)), (2, .int l2)] []) (h : wX5_lives_356 Q P283 l2 l3 ks0 σ) : kV z (mW (zg z) a E σ) 0 0 356 [(0, .ref (a 0)), (2, .int l2), (3, .int l3)] [.int ks0] := by
  unfold wX5_lives_356 at h
  refine g_istore (lv' := [(4, .int ks0), (0, .ref (a 0)), (2, .int l2), (3, .int l3)]) F dX5_lives_356 rfl rfl ?_
  refine g_iload_n F dX5_lives_358 3 rfl ?_
  refine g_iload F dX5_lives_359 0 rfl ?_
  refine g_icmp_ge F dX5_lives_361 (tgt := 368) (by decide) (fun c56 => ?_) (fun c56 => ?_)
  · replace h := h.1 c56
    refine g_iload F dX5_lives_368 0 rfl ?_
    exact g_sub [1, 2] rfl (sX5_lives_370 F R hP283 h)
  replace h := h.2 c56
  refine g_iload_n F dX5_lives_364 3 rfl ?_
  refine g_goto F dX5_lives_365 (tgt := 370) (by decide) ?_
  exact g_sub [1, 2] rfl (sX5_lives_370 F R hP283 h)
set_option maxRecDepth 20000 in
theorem sX5_lives_283 {z : kZ} {a : Nat → Nat} {E : va_W}  {Q : kS → Prop} {l2 : Int32} {σ : kS} (F : kF z cX5_lives RX5 5 { frames := 44, cells := 0, slots := 0, locals := 1017 }) (R : kR z none 0 0 (kPv (mW (zg z) a E) Q)) (h : wX5_lives_283 Q l2 σ) : kV z (mW (zg z) a E σ) 0 0 283 [(0, .ref (a 0)), (2, .int l2)] [] := by
  unfold wX5_lives_283 at h
  refine h (fun σ l2 => kV z (mW (zg z) a E σ) 0 0 283 [(0, .ref (a 0)), (2, .int l2)] []) (fun σ l2 h => ?_)
  refine g_iload_n F dX5_lives_283 1 rfl ?_
  refine g_bipush (v := (12 : Int32)) F dX5_lives_284 (by decide) ?_
  refine g_icmp_ge F dX5_lives_286 (tgt := 403) (by decide) (fun c41 => ?_) (fun c41 => ?_)
  · replace h := h.1 c41
    refine g_aload_n F dX5_lives_403 0 rfl ?_
    refine g_dup F dX5_lives_404 rfl ?_
    refine rgX5_X5_yearNow F dX5_lives_405 ?_
    refine g_iconst (v := (1 : Int32)) F dX5_lives_408 (by decide) ?_
    refine g_iadd F dX5_lives_409 ?_
    refine rpX5_X5_yearNow F dX5_lives_410 ?_
    refine g_name (wf := mW (zg z) a E) (fun s42 es42 => ?_)
    replace h := h s42 es42
    exact g_vret F R rfl rfl dX5_lives_413 ⟨_, rfl, rfl, h⟩
  replace h := h.2 c41
  refine g_aload_n F dX5_lives_289 0 rfl ?_
  refine rgX5_X5_fen F dX5_lives_290 ?_
  refine g_iconst (v := (3 : Int32)) F dX5_lives_293 (by decide) ?_
  refine g_iload_n F dX5_lives_294 1 rfl ?_
  refine g_imul F dX5_lives_295 ?_
  refine g_iconst (v := (2 : Int32)) F dX5_lives_296 (by decide) ?_
  refine g_iadd F dX5_lives_297 ?_
  obtain ⟨hc, h⟩ := h
  refine g_iald (wf := mW (zg z) a E) F mA4 hc dX5_lives_298 ?_
  refine g_if_ne F dX5_lives_299 (tgt := 397) (by decide) (fun c43 => ?_) (fun c43 => ?_)
  · replace h := h.1 c43
    obtain ⟨x44, ex44⟩ : ∃ q : Int32, q = l2 + (1 : Int32) := ⟨_, rfl⟩
    replace h := h x44 ex44
    refine g_iinc (lv' := [(2, .int x44), (0, .ref (a 0))]) (d := (1 : Int32)) F dX5_lives_397 rfl 1 rfl (by decide) ex44.symm rfl ?_
    refine g_goto F dX5_lives_400 (tgt := 283) (by decide) ?_
    exact (g_sub [1, 0] rfl h)
  replace h := h.2 c43
  refine g_aload_n F dX5_lives_302 0 rfl ?_
  refine g_iconst (v := (1 : Int32)) F dX5_lives_303 (by decide) ?_
  refine g_iload_n F dX5_lives_304 1 rfl ?_
  refine g_aload_n F dX5_lives_305 0 rfl ?_
  refine g_iload_n F dX5_lives_306 1 rfl ?_
  refine rX5_X5_standOn F dX5_lives_307 rfl h (fun r46 s45 h => ?_)
  refine rX5_X5_says F dX5_lives_310 rfl h (fun r48 s47 h => ?_)
  refine g_istore_n (lv' := [(3, .int r48), (0, .ref (a 0)), (2, .int l2)]) F dX5_lives_313 rfl rfl ?_
  refine g_aload_n F dX5_lives_314 1 rfl ?_
  refine rgX5_X5_fen F dX5_lives_315 ?_
  refine g_iconst (v := (3 : Int32)) F dX5_lives_318 (by decide) ?_
  refine g_iload_n F dX5_lives_319 2 rfl ?_
  refine g_imul F dX5_lives_320 ?_
  obtain ⟨hc, h⟩ := h
  refine g_iald (wf := mW (zg z) a E) F mA4 hc dX5_lives_321 ?_
  refine g_aload_n F dX5_lives_322 1 rfl ?_
  refine rgX5_X5_fen F dX5_lives_323 ?_
  refine g_iconst (v := (3 : Int32)) F dX5_lives_326 (by decide) ?_
  refine g_iload_n F dX5_lives_327 2 rfl ?_
  refine g_imul F dX5_lives_328 ?_
  refine g_iconst (v := (1 : Int32)) F dX5_lives_329 (by decide) ?_
  refine g_iadd F dX5_lives_330 ?_
  obtain ⟨hc, h⟩ := h
  refine g_iald (wf := mW (zg z) a E) F mA4 hc dX5_lives_331 ?_
  refine g_icmp_ge F dX5_lives_332 (tgt := 346) (by decide) (fun c49 => ?_) (fun c49 => ?_)
  · replace h := h.1 c49
    refine g_aload_n F dX5_lives_346 1 rfl ?_
    refine rgX5_X5_fen F dX5_lives_347 ?_
    refine g_iconst (v := (3 : Int32)) F dX5_lives_350 (by decide) ?_
    refine g_iload_n F dX5_lives_351 2 rfl ?_
    refine g_imul F dX5_lives_352 ?_
    refine g_iconst (v := (1 : Int32)) F dX5_lives_353 (by decide) ?_
    refine g_iadd F dX5_lives_354 ?_
    obtain ⟨hc, h⟩ := h
    refine g_iald (wf := mW (zg z) a E) F mA4 hc dX5_lives_355 ?_
    exact g_sub [1, 2, 0] rfl (sX5_lives_356 F R (fun _ _ h => h) h)
  replace h := h.2 c49
  refine g_aload_n F dX5_lives_335 1 rfl ?_
  refine rgX5_X5_fen F dX5_lives_336 ?_
  refine g_iconst (v := (3 : Int32)) F dX5_lives_339 (by decide) ?_
  refine g_iload_n F dX5_lives_340 2 rfl ?_
  refine g_imul F dX5_lives_341 ?_
  obtain ⟨hc, h⟩ := h
  refine g_iald (wf := mW (zg z) a E) F mA4 hc dX5_lives_342 ?_
  refine g_goto F dX5_lives_343 (tgt := 356) (by decide) ?_
  exact g_sub [1, 2, 0] rfl (sX5_lives_356 F R (fun _ _ h => h) h)
set_option maxRecDepth 20000 in
theorem sX5_lives_186 {z : kZ} {a : Nat → Nat} {E : va_W}  {Q : kS → Prop} {l2 : Int32} {σ : kS} (F : kF z cX5_lives RX5 5 { frames := 44, cells := 0, slots := 0, locals := 1017 }) (R : kR z none 0 0 (kPv (mW (zg z) a E) Q)) (h : wX5_lives_186 Q l2 σ) : kV z (mW (zg z) a E σ) 0 0 186 [(0, .ref (a 0)), (2, .int l2)] [] := by
  unfold wX5_lives_186 at h
  refine h (fun σ l2 => kV z (mW (zg z) a E σ) 0 0 186 [(0, .ref (a 0)), (2, .int l2)] []) (fun σ l2 h => ?_)
  refine g_iload_n F dX5_lives_186 1 rfl ?_
  refine g_aload_n F dX5_lives_187 0 rfl ?_
  refine rgX5_X5_many F dX5_lives_188 ?_
  refine g_icmp_ge F dX5_lives_191 (tgt := 281) (by decide) (fun c30 => ?_) (fun c30 => ?_)
  · replace h := h.1 c30
    refine g_iconst (v := (0 : Int32)) F dX5_lives_281 (by decide) ?_
    refine g_istore_n (lv' := [(2, .int (0 : Int32)), (0, .ref (a 0))]) F dX5_lives_282 rfl rfl ?_
    exact g_sub [1, 0] rfl (sX5_lives_283 F R h)
  replace h := h.2 c30
  refine g_aload_n F dX5_lives_194 0 rfl ?_
  refine rgX5_X5_rows F dX5_lives_195 ?_
  refine g_iconst (v := (3 : Int32)) F dX5_lives_198 (by decide) ?_
  refine g_iload_n F dX5_lives_199 1 rfl ?_
  refine g_imul F dX5_lives_200 ?_
  refine g_iconst (v := (2 : Int32)) F dX5_lives_201 (by decide) ?_
  refine g_iadd F dX5_lives_202 ?_
  obtain ⟨hc, h⟩ := h
  refine g_iald (wf := mW (zg z) a E) F mA6 hc dX5_lives_203 ?_
  refine g_iconst (v := (1 : Int32)) F dX5_lives_204 (by decide) ?_
  refine g_icmp_ne F dX5_lives_205 (tgt := 275) (by decide) (fun c31 => ?_) (fun c31 => ?_)
  · replace h := h.1 c31
    obtain ⟨x32, ex32⟩ : ∃ q : Int32, q = l2 + (1 : Int32) := ⟨_, rfl⟩
    replace h := h x32 ex32
    refine g_iinc (lv' := [(2, .int x32), (0, .ref (a 0))]) (d := (1 : Int32)) F dX5_lives_275 rfl 1 rfl (by decide) ex32.symm rfl ?_
    refine g_goto F dX5_lives_278 (tgt := 186) (by decide) ?_
    exact (g_sub [1, 0] rfl h)
  replace h := h.2 c31
  refine g_aload_n F dX5_lives_208 0 rfl ?_
  refine rgX5_X5_rows F dX5_lives_209 ?_
  refine g_iconst (v := (3 : Int32)) F dX5_lives_212 (by decide) ?_
  refine g_iload_n F dX5_lives_213 1 rfl ?_
  refine g_imul F dX5_lives_214 ?_
  refine g_iconst (v := (1 : Int32)) F dX5_lives_215 (by decide) ?_
  refine g_iadd F dX5_lives_216 ?_
  obtain ⟨hc, h⟩ := h
  refine g_iald (wf := mW (zg z) a E) F mA6 hc dX5_lives_217 ?_
  refine g_topi (fun x33 ex33 => ?_)
  replace h := h x33 ex33
  refine g_istore_n (lv' := [(3, .int x33), (0, .ref (a 0)), (2, .int l2)]) F dX5_lives_218 rfl rfl ?_
  refine g_aload_n F dX5_lives_219 1 rfl ?_
  refine g_iload_n F dX5_lives_220 2 rfl ?_
  refine g_iload_n F dX5_lives_221 0 rfl ?_
  refine rX5_X5_draws F dX5_lives_222 rfl h (fun s34 h => ?_)
  refine g_aload_n F dX5_lives_225 1 rfl ?_
  refine rgX5_X5_kinds F dX5_lives_226 ?_
  refine g_iload_n F dX5_lives_229 2 rfl ?_
  obtain ⟨hc, h⟩ := h
  refine g_iald (wf := mW (zg z) a E) F mA5 hc dX5_lives_230 ?_
  refine g_iconst (v := (1 : Int32)) F dX5_lives_231 (by decide) ?_
  refine g_icmp_eq F dX5_lives_232 (tgt := 245) (by decide) (fun c35 => ?_) (fun c35 => ?_)
  · replace h := h.1 c35
    exact g_sub [1, 2, 0] rfl (sX5_lives_245 F R (fun _ _ h => h) h)
  replace h := h.2 c35
  refine g_aload_n F dX5_lives_235 1 rfl ?_
  refine rgX5_X5_kinds F dX5_lives_236 ?_
  refine g_iload_n F dX5_lives_239 2 rfl ?_
  obtain ⟨hc, h⟩ := h
  refine g_iald (wf := mW (zg z) a E) F mA5 hc dX5_lives_240 ?_
  refine g_iconst (v := (4 : Int32)) F dX5_lives_241 (by decide) ?_
  refine g_icmp_ne F dX5_lives_242 (tgt := 261) (by decide) (fun c36 => ?_) (fun c36 => ?_)
  · replace h := h.1 c36
    exact g_sub [1, 2] rfl (sX5_lives_261 F R (fun _ _ h => h) h)
  replace h := h.2 c36
  exact g_sub [1, 2, 0] rfl (sX5_lives_245 F R (fun _ _ h => h) h)
set_option maxRecDepth 20000 in
theorem sX5_lives_160 {z : kZ} {a : Nat → Nat} {E : va_W}  {Q : kS → Prop} {ks0 : Int32} {ks1 : Int32} {σ : kS} (F : kF z cX5_lives RX5 5 { frames := 44, cells := 0, slots := 0, locals := 1017 }) (R : kR z none 0 0 (kPv (mW (zg z) a E) Q)) (h : wX5_lives_160 Q ks0 ks1 σ) : kV z (mW (zg z) a E σ) 0 0 160 [(0, .ref (a 0))] [.int ks0, .int ks1, .ref (a 0)] := by
  unfold wX5_lives_160 at h
  refine g_ineg F dX5_lives_160 ?_
  refine rX5_X5_adds F dX5_lives_161 rfl h (fun s37 h => ?_)
  refine g_goto F dX5_lives_164 (tgt := 184) (by decide) ?_
  refine g_iconst (v := (0 : Int32)) F dX5_lives_184 (by decide) ?_
  refine g_istore_n (lv' := [(2, .int (0 : Int32)), (0, .ref (a 0))]) F dX5_lives_185 rfl rfl ?_
  exact g_sub [1, 0] rfl (sX5_lives_186 F R h)
set_option maxRecDepth 20000 in
theorem sX5_lives_33 {z : kZ} {a : Nat → Nat} {E : va_W}  {Q : kS → Prop} {l1 : Int32} {σ : kS} (F : kF z cX5_lives RX5 5 { frames := 44, cells := 0, slots := 0, locals := 1017 }) (R : kR z none 0 0 (kPv (mW (zg z) a E) Q)) (h : wX5_lives_33 Q l1 σ) : kV z (mW (zg z) a E σ) 0 0 33 [(0, .ref (a 0)), (1, .int l1)] [] := by
  unfold wX5_lives_33 at h
  refine h (fun σ l1 => kV z (mW (zg z) a E σ) 0 0 33 [(0, .ref (a 0)), (1, .int l1)] []) (fun σ l1 h => ?_)
  refine g_iload_n F dX5_lives_33 1 rfl ?_
  refine g_if_le F dX5_lives_34 (tgt := 119) (by decide) (fun c8 => ?_) (fun c8 => ?_)
  · replace h := h.1 c8
    refine g_aload_n F dX5_lives_119 0 rfl ?_
    refine g_iconst (v := (0 : Int32)) F dX5_lives_120 (by decide) ?_
    refine rX5_X5_levelOf F dX5_lives_121 rfl h (fun r10 s9 h => ?_)
    refine g_aload_n F dX5_lives_124 0 rfl ?_
    refine rgX5_X5_riverNow F dX5_lives_125 ?_
    refine g_isub F dX5_lives_128 ?_
    refine g_topi (fun x11 ex11 => ?_)
    replace h := h x11 ex11
    refine g_istore_n (lv' := [(1, .int x11), (0, .ref (a 0))]) F dX5_lives_129 rfl rfl ?_
    refine g_iload_n F dX5_lives_130 0 rfl ?_
    refine g_if_le F dX5_lives_131 (tgt := 167) (by decide) (fun c12 => ?_) (fun c12 => ?_)
    · replace h := h.1 c12
      refine g_aload_n F dX5_lives_167 1 rfl ?_
      refine g_iconst (v := (0 : Int32)) F dX5_lives_168 (by decide) ?_
      refine rX5_X5_isHeld F dX5_lives_169 rfl h (fun r14 s13 h => ?_)
      refine g_if_ne F dX5_lives_172 (tgt := 184) (by decide) (fun c15 => ?_) (fun c15 => ?_)
      · replace h := h.1 c15
        refine g_iconst (v := (0 : Int32)) F dX5_lives_184 (by decide) ?_
        refine g_istore_n (lv' := [(2, .int (0 : Int32)), (1, .int x11), (0, .ref (a 0))]) F dX5_lives_185 rfl rfl ?_
        exact g_sub [2, 0] rfl (sX5_lives_186 F R h)
      replace h := h.2 c15
      refine g_aload_n F dX5_lives_175 1 rfl ?_
      refine g_iconst (v := (0 : Int32)) F dX5_lives_176 (by decide) ?_
      refine g_iload_n F dX5_lives_177 0 rfl ?_
      refine g_ineg F dX5_lives_178 ?_
      refine g_iconst (v := (2 : Int32)) F dX5_lives_179 (by decide) ?_
      refine g_idiv F dX5_lives_180 (by decide) ?_
      refine rX5_X5_adds F dX5_lives_181 rfl h (fun s16 h => ?_)
      refine g_iconst (v := (0 : Int32)) F dX5_lives_184 (by decide) ?_
      refine g_istore_n (lv' := [(2, .int (0 : Int32)), (1, .int x11), (0, .ref (a 0))]) F dX5_lives_185 rfl rfl ?_
      exact g_sub [2, 0] rfl (sX5_lives_186 F R h)
    replace h := h.2 c12
    refine g_aload_n F dX5_lives_134 1 rfl ?_
    refine g_iconst (v := (0 : Int32)) F dX5_lives_135 (by decide) ?_
    refine g_iload_n F dX5_lives_136 0 rfl ?_
    refine g_iconst (v := (2 : Int32)) F dX5_lives_137 (by decide) ?_
    refine g_idiv F dX5_lives_138 (by decide) ?_
    refine g_aload_n F dX5_lives_139 1 rfl ?_
    refine rgX5_X5_fen F dX5_lives_140 ?_
    refine g_iconst (v := (2 : Int32)) F dX5_lives_143 (by decide) ?_
    refine g_iald (wf := mW (zg z) a E) F mA4 (kIn rfl) dX5_lives_144 ?_
    refine g_icmp_ge F dX5_lives_145 (tgt := 154) (by decide) (fun c17 => ?_) (fun c17 => ?_)
    · replace h := h.1 c17
      refine g_aload_n F dX5_lives_154 1 rfl ?_
      refine rgX5_X5_fen F dX5_lives_155 ?_
      refine g_iconst (v := (2 : Int32)) F dX5_lives_158 (by decide) ?_
      refine g_iald (wf := mW (zg z) a E) F mA4 (kIn rfl) dX5_lives_159 ?_
      exact g_sub [1] rfl (sX5_lives_160 F R h)
    replace h := h.2 c17
    refine g_iload_n F dX5_lives_148 0 rfl ?_
    refine g_iconst (v := (2 : Int32)) F dX5_lives_149 (by decide) ?_
    refine g_idiv F dX5_lives_150 (by decide) ?_
    refine g_goto F dX5_lives_151 (tgt := 160) (by decide) ?_
    exact g_sub [1] rfl (sX5_lives_160 F R h)
  replace h := h.2 c8
  refine g_aload_n F dX5_lives_37 0 rfl ?_
  refine g_iload_n F dX5_lives_38 1 rfl ?_
  refine rX5_X5_levelOf F dX5_lives_39 rfl h (fun r19 s18 h => ?_)
  refine g_aload_n F dX5_lives_42 0 rfl ?_
  refine g_iload_n F dX5_lives_43 1 rfl ?_
  refine g_iconst (v := (1 : Int32)) F dX5_lives_44 (by decide) ?_
  refine g_isub F dX5_lives_45 ?_
  refine rX5_X5_levelOf F dX5_lives_46 rfl h (fun r21 s20 h => ?_)
  refine g_isub F dX5_lives_49 ?_
  refine g_topi (fun x22 ex22 => ?_)
  replace h := h x22 ex22
  refine g_istore_n (lv' := [(2, .int x22), (0, .ref (a 0)), (1, .int l1)]) F dX5_lives_50 rfl rfl ?_
  refine g_iload_n F dX5_lives_51 0 rfl ?_
  refine g_if_le F dX5_lives_52 (tgt := 113) (by decide) (fun c23 => ?_) (fun c23 => ?_)
  · replace h := h.1 c23
    obtain ⟨x24, ex24⟩ : ∃ q : Int32, q = l1 + (-1 : Int32) := ⟨_, rfl⟩
    replace h := h x24 ex24
    refine g_iinc (lv' := [(1, .int x24), (2, .int x22), (0, .ref (a 0))]) (d := (-1 : Int32)) F dX5_lives_113 rfl 2 rfl (by decide) ex24.symm rfl ?_
    refine g_goto F dX5_lives_116 (tgt := 33) (by decide) ?_
    exact (g_sub [2, 0] rfl h)
  replace h := h.2 c23
  refine g_aload_n F dX5_lives_55 1 rfl ?_
  refine g_iload_n F dX5_lives_56 2 rfl ?_
  refine g_iconst (v := (1 : Int32)) F dX5_lives_57 (by decide) ?_
  refine g_isub F dX5_lives_58 ?_
  refine rX5_X5_isHeld F dX5_lives_59 rfl h (fun r26 s25 h => ?_)
  refine g_if_ne F dX5_lives_62 (tgt := 113) (by decide) (fun c27 => ?_) (fun c27 => ?_)
  · replace h := h.1 c27
    obtain ⟨x28, ex28⟩ : ∃ q : Int32, q = l1 + (-1 : Int32) := ⟨_, rfl⟩
    replace h := h x28 ex28
    refine g_iinc (lv' := [(1, .int x28), (2, .int x22), (0, .ref (a 0))]) (d := (-1 : Int32)) F dX5_lives_113 rfl 2 rfl (by decide) ex28.symm rfl ?_
    refine g_goto F dX5_lives_116 (tgt := 33) (by decide) ?_
    exact (g_sub [2, 0] rfl h)
  replace h := h.2 c27
  refine g_iload_n F dX5_lives_65 0 rfl ?_
  refine g_iconst (v := (2 : Int32)) F dX5_lives_66 (by decide) ?_
  refine g_idiv F dX5_lives_67 (by decide) ?_
  refine g_aload_n F dX5_lives_68 1 rfl ?_
  refine rgX5_X5_fen F dX5_lives_69 ?_
  refine g_iconst (v := (3 : Int32)) F dX5_lives_72 (by decide) ?_
  refine g_iload_n F dX5_lives_73 2 rfl ?_
  refine g_imul F dX5_lives_74 ?_
  refine g_iconst (v := (2 : Int32)) F dX5_lives_75 (by decide) ?_
  refine g_iadd F dX5_lives_76 ?_
  obtain ⟨hc, h⟩ := h
  refine g_iald (wf := mW (zg z) a E) F mA4 hc dX5_lives_77 ?_
  refine g_icmp_ge F dX5_lives_78 (tgt := 87) (by decide) (fun c29 => ?_) (fun c29 => ?_)
  · replace h := h.1 c29
    refine g_aload_n F dX5_lives_87 1 rfl ?_
    refine rgX5_X5_fen F dX5_lives_88 ?_
    refine g_iconst (v := (3 : Int32)) F dX5_lives_91 (by decide) ?_
    refine g_iload_n F dX5_lives_92 2 rfl ?_
    refine g_imul F dX5_lives_93 ?_
    refine g_iconst (v := (2 : Int32)) F dX5_lives_94 (by decide) ?_
    refine g_iadd F dX5_lives_95 ?_
    obtain ⟨hc, h⟩ := h
    refine g_iald (wf := mW (zg z) a E) F mA4 hc dX5_lives_96 ?_
    exact g_sub [1, 2] rfl (sX5_lives_97 F R (fun _ _ h => h) h)
  replace h := h.2 c29
  refine g_iload_n F dX5_lives_81 0 rfl ?_
  refine g_iconst (v := (2 : Int32)) F dX5_lives_82 (by decide) ?_
  refine g_idiv F dX5_lives_83 (by decide) ?_
  refine g_goto F dX5_lives_84 (tgt := 97) (by decide) ?_
  exact g_sub [1, 2] rfl (sX5_lives_97 F R (fun _ _ h => h) h)
set_option maxRecDepth 20000 in
theorem sX5_lives_2 {z : kZ} {a : Nat → Nat} {E : va_W}  {Q : kS → Prop} {l1 : Int32} {σ : kS} (F : kF z cX5_lives RX5 5 { frames := 44, cells := 0, slots := 0, locals := 1017 }) (R : kR z none 0 0 (kPv (mW (zg z) a E) Q)) (h : wX5_lives_2 Q l1 σ) : kV z (mW (zg z) a E σ) 0 0 2 [(0, .ref (a 0)), (1, .int l1)] [] := by
  unfold wX5_lives_2 at h
  refine h (fun σ l1 => kV z (mW (zg z) a E σ) 0 0 2 [(0, .ref (a 0)), (1, .int l1)] []) (fun σ l1 h => ?_)
  refine g_iload_n F dX5_lives_2 1 rfl ?_
  refine g_bipush (v := (12 : Int32)) F dX5_lives_3 (by decide) ?_
  refine g_icmp_ge F dX5_lives_5 (tgt := 30) (by decide) (fun c1 => ?_) (fun c1 => ?_)
  · replace h := h.1 c1
    refine g_bipush (v := (11 : Int32)) F dX5_lives_30 (by decide) ?_
    refine g_istore_n (lv' := [(1, .int (11 : Int32)), (0, .ref (a 0))]) F dX5_lives_32 rfl rfl ?_
    exact g_sub [1, 0] rfl (sX5_lives_33 F R h)
  replace h := h.2 c1
  refine g_aload_n F dX5_lives_8 0 rfl ?_
  refine g_iload_n F dX5_lives_9 1 rfl ?_
  refine g_aload_n F dX5_lives_10 0 rfl ?_
  refine g_iconst (v := (0 : Int32)) F dX5_lives_11 (by decide) ?_
  refine g_iload_n F dX5_lives_12 1 rfl ?_
  refine g_aload_n F dX5_lives_13 0 rfl ?_
  refine g_iload_n F dX5_lives_14 1 rfl ?_
  refine rX5_X5_standOn F dX5_lives_15 rfl h (fun r3 s2 h => ?_)
  refine rX5_X5_says F dX5_lives_18 rfl h (fun r5 s4 h => ?_)
  refine rX5_X5_adds F dX5_lives_21 rfl h (fun s6 h => ?_)
  obtain ⟨x7, ex7⟩ : ∃ q : Int32, q = l1 + (1 : Int32) := ⟨_, rfl⟩
  replace h := h x7 ex7
  refine g_iinc (lv' := [(1, .int x7), (0, .ref (a 0))]) (d := (1 : Int32)) F dX5_lives_24 rfl 1 rfl (by decide) ex7.symm rfl ?_
  refine g_goto F dX5_lives_27 (tgt := 2) (by decide) ?_
  exact (g_sub [1, 0] rfl h)
set_option maxRecDepth 20000 in
theorem ctX5_lives (l : Launch) (g : kG) (A : Nat → Prop) (a : Nat → Nat) (E : va_W) {σ : kS} {Q : kS → Prop} (h : wX5_lives σ Q) : kCt l yX5_lives cX5_lives 5 none 44 1017 0 0 g A [.ref (a 0)] (mW g a E σ) (kPv (mW g a E) Q) := by
  refine kCt.of (lv0 := [(0, .ref (a 0))]) (by decide +kernel) (Nat.le_of_ble_eq_true rfl) rfl (fun z hl hg hA F R => ?_)
  subst hl hg hA
  have F : kF z cX5_lives RX5 5 { frames := 44, cells := 0, slots := 0, locals := 1017 } := F
  unfold wX5_lives at h
  refine g_iconst (v := (0 : Int32)) F dX5_lives_0 (by decide) ?_
  refine g_istore_n (lv' := [(1, .int (0 : Int32)), (0, .ref (a 0))]) F dX5_lives_1 rfl rfl ?_
  exact g_sub [1, 0] rfl (sX5_lives_2 F R h)
set_option maxRecDepth 20000 in
theorem sX5_drySet_4 {z : kZ} {a : Nat → Nat} {E : va_W}  {Q : Int32 → kS → Prop} {l1 : Int32} {l2 : Int32} {σ : kS} (F : kF z cX5_drySet RX5 3 { frames := 0, cells := 0, slots := 0, locals := 40 }) (R : kR z (some .int) 0 0 (kPi (mW (zg z) a E) Q)) (h : wX5_drySet_4 Q l1 l2 σ) : kV z (mW (zg z) a E σ) 0 0 4 [(0, .ref (a 0)), (1, .int l1), (2, .int l2)] [] := by
  unfold wX5_drySet_4 at h
  refine h (fun l1 l2 => kV z (mW (zg z) a E σ) 0 0 4 [(0, .ref (a 0)), (1, .int l1), (2, .int l2)] []) (fun l1 l2 h => ?_)
  refine g_iload_n F dX5_drySet_4 2 rfl ?_
  refine g_bipush (v := (12 : Int32)) F dX5_drySet_5 (by decide) ?_
  refine g_icmp_ge F dX5_drySet_7 (tgt := 39) (by decide) (fun c1 => ?_) (fun c1 => ?_)
  · replace h := h.1 c1
    refine g_iload_n F dX5_drySet_39 1 rfl ?_
    exact g_iret F R rfl rfl dX5_drySet_40 ⟨_, _, rfl, rfl, h⟩
  replace h := h.2 c1
  refine g_iload_n F dX5_drySet_10 1 rfl ?_
  refine g_aload_n F dX5_drySet_11 0 rfl ?_
  refine rgX5_X5_fen F dX5_drySet_12 ?_
  refine g_iconst (v := (3 : Int32)) F dX5_drySet_15 (by decide) ?_
  refine g_iload_n F dX5_drySet_16 2 rfl ?_
  refine g_imul F dX5_drySet_17 ?_
  refine g_iconst (v := (2 : Int32)) F dX5_drySet_18 (by decide) ?_
  refine g_iadd F dX5_drySet_19 ?_
  obtain ⟨hc, h⟩ := h
  refine g_iald (wf := mW (zg z) a E) F mA4 hc dX5_drySet_20 ?_
  refine g_if_ne F dX5_drySet_21 (tgt := 28) (by decide) (fun c2 => ?_) (fun c2 => ?_)
  · replace h := h.1 c2
    refine g_iconst (v := (0 : Int32)) F dX5_drySet_28 (by decide) ?_
    refine g_iload_n F dX5_drySet_29 2 rfl ?_
    refine g_ishl F dX5_drySet_30 ?_
    refine g_ior F dX5_drySet_31 ?_
    refine g_topi (fun x3 ex3 => ?_)
    replace h := h x3 ex3
    refine g_istore_n (lv' := [(1, .int x3), (0, .ref (a 0)), (2, .int l2)]) F dX5_drySet_32 rfl rfl ?_
    obtain ⟨x4, ex4⟩ : ∃ q : Int32, q = l2 + (1 : Int32) := ⟨_, rfl⟩
    replace h := h x4 ex4
    refine g_iinc (lv' := [(2, .int x4), (1, .int x3), (0, .ref (a 0))]) (d := (1 : Int32)) F dX5_drySet_33 rfl 2 rfl (by decide) ex4.symm rfl ?_
    refine g_goto F dX5_drySet_36 (tgt := 4) (by decide) ?_
    exact (g_sub [2, 1, 0] rfl h)
  replace h := h.2 c2
  refine g_iconst (v := (1 : Int32)) F dX5_drySet_24 (by decide) ?_
  refine g_goto F dX5_drySet_25 (tgt := 29) (by decide) ?_
  refine g_iload_n F dX5_drySet_29 2 rfl ?_
  refine g_ishl F dX5_drySet_30 ?_
  refine g_ior F dX5_drySet_31 ?_
  refine g_topi (fun x5 ex5 => ?_)
  replace h := h x5 ex5
  refine g_istore_n (lv' := [(1, .int x5), (0, .ref (a 0)), (2, .int l2)]) F dX5_drySet_32 rfl rfl ?_
  obtain ⟨x6, ex6⟩ : ∃ q : Int32, q = l2 + (1 : Int32) := ⟨_, rfl⟩
  replace h := h x6 ex6
  refine g_iinc (lv' := [(2, .int x6), (1, .int x5), (0, .ref (a 0))]) (d := (1 : Int32)) F dX5_drySet_33 rfl 2 rfl (by decide) ex6.symm rfl ?_
  refine g_goto F dX5_drySet_36 (tgt := 4) (by decide) ?_
  exact (g_sub [2, 1, 0] rfl h)
set_option maxRecDepth 20000 in
theorem ctX5_drySet (l : Launch) (g : kG) (A : Nat → Prop) (a : Nat → Nat) (E : va_W) {σ : kS} {Q : Int32 → kS → Prop} (h : wX5_drySet σ Q) : kCt l yX5_drySet cX5_drySet 3 (some .int) 0 40 0 0 g A [.ref (a 0)] (mW g a E σ) (kPi (mW g a E) Q) := by
  refine kCt.of (lv0 := [(0, .ref (a 0))]) (by decide +kernel) (Nat.le_of_ble_eq_true rfl) rfl (fun z hl hg hA F R => ?_)
  subst hl hg hA
  have F : kF z cX5_drySet RX5 3 { frames := 0, cells := 0, slots := 0, locals := 40 } := F
  unfold wX5_drySet at h
  refine g_iconst (v := (0 : Int32)) F dX5_drySet_0 (by decide) ?_
  refine g_istore_n (lv' := [(1, .int (0 : Int32)), (0, .ref (a 0))]) F dX5_drySet_1 rfl rfl ?_
  refine g_iconst (v := (0 : Int32)) F dX5_drySet_2 (by decide) ?_
  refine g_istore_n (lv' := [(2, .int (0 : Int32)), (1, .int (0 : Int32)), (0, .ref (a 0))]) F dX5_drySet_3 rfl rfl ?_
  exact g_sub [2, 1, 0] rfl (sX5_drySet_4 F R h)
set_option maxRecDepth 20000 in
theorem sX5_bitsOf_4 {z : kZ} {ws : va_W}  {Q : Int32 → Prop} {l1 : Int32} {l2 : Int32} (F : kF z cX5_bitsOf RX5 3 { frames := 0, cells := 0, slots := 0, locals := 40 }) (R : kR z (some .int) 0 0 (kTi ws Q)) (h : wX5_bitsOf_4 Q l1 l2) : kV z ws 0 0 4 [(1, .int l1), (2, .int l2)] [] := by
  unfold wX5_bitsOf_4 at h
  refine h (fun l1 l2 => kV z ws 0 0 4 [(1, .int l1), (2, .int l2)] []) (fun l1 l2 h => ?_)
  refine g_iload_n F dX5_bitsOf_4 1 rfl ?_
  refine g_if_eq F dX5_bitsOf_5 (tgt := 20) (by decide) (fun c1 => ?_) (fun c1 => ?_)
  · replace h := h.1 c1
    refine g_iload_n F dX5_bitsOf_20 0 rfl ?_
    exact g_iret F R rfl rfl dX5_bitsOf_21 ⟨_, rfl, rfl, h⟩
  replace h := h.2 c1
  obtain ⟨x2, ex2⟩ : ∃ q : Int32, q = l1 + (1 : Int32) := ⟨_, rfl⟩
  replace h := h x2 ex2
  refine g_iinc (lv' := [(1, .int x2), (2, .int l2)]) (d := (1 : Int32)) F dX5_bitsOf_8 rfl 0 rfl (by decide) ex2.symm rfl ?_
  refine g_iload_n F dX5_bitsOf_11 1 rfl ?_
  refine g_iload_n F dX5_bitsOf_12 1 rfl ?_
  refine g_iconst (v := (1 : Int32)) F dX5_bitsOf_13 (by decide) ?_
  refine g_isub F dX5_bitsOf_14 ?_
  refine g_iand F dX5_bitsOf_15 ?_
  refine g_topi (fun x3 ex3 => ?_)
  replace h := h x3 ex3
  refine g_istore_n (lv' := [(2, .int x3), (1, .int x2)]) F dX5_bitsOf_16 rfl rfl ?_
  refine g_goto F dX5_bitsOf_17 (tgt := 4) (by decide) ?_
  exact (g_sub [1, 0] rfl h)
set_option maxRecDepth 20000 in
theorem ctX5_bitsOf (l : Launch) (g : kG) (A : Nat → Prop) (ws : va_W) {l0 : Int32} {Q : Int32 → Prop} (h : wX5_bitsOf l0 Q) : kCt l yX5_bitsOf cX5_bitsOf 3 (some .int) 0 40 0 0 g A [.int l0] ws (kTi ws Q) := by
  refine kCt.of (lv0 := [(0, .int l0)]) (by decide +kernel) (Nat.le_of_ble_eq_true rfl) rfl (fun z hl hg hA F R => ?_)
  subst hl hg hA
  have F : kF z cX5_bitsOf RX5 3 { frames := 0, cells := 0, slots := 0, locals := 40 } := F
  unfold wX5_bitsOf at h
  refine g_iconst (v := (0 : Int32)) F dX5_bitsOf_0 (by decide) ?_
  refine g_istore_n (lv' := [(1, .int (0 : Int32)), (0, .int l0)]) F dX5_bitsOf_1 rfl rfl ?_
  refine g_iload_n F dX5_bitsOf_2 1 rfl ?_
  refine g_istore_n (lv' := [(2, .int l0), (1, .int (0 : Int32)), (0, .int l0)]) F dX5_bitsOf_3 rfl rfl ?_
  exact g_sub [1, 0] rfl (sX5_bitsOf_4 F R h)
theorem plX5_lives : kPlain yX5_lives 0 = true := by decide +kernel
theorem rX5_X5_lives {z : kZ} {cc : ByteArray} {nL : Nat} {rm : Room} {c n pc : Nat} {lv : List (Nat × Value)} {st : List Value} {a : Nat → Nat} {E : va_W} {σ : kS} {Q : kS → Prop} (F : kF z cc RX5 nL rm) (hd : decode cc pc = .ok (.invokevirtual 360, 3)) (hf : kFits rm 44 1017 0 0 5 c n st = true) (h : wX5_lives σ Q) (k : ∀ σ' : kS, Q σ' → kV z (mW (zg z) a E σ') c n (pc + 3) lv st) : kV z (mW (zg z) a E σ) c n pc lv (.ref (a 0) :: st) := by
  exact g_callV F (av := []) (ctX5_lives _ _ _ a E h) (ci := 5) (q0 := 0) rfl rfl rfl wq1226 wq1228 wq95 wq114 wq1229 plX5_lives hd hf (fun r ws' hq => by
    obtain ⟨σ', rfl, rfl, hq⟩ := hq
    exact k σ' hq)
theorem plX5_drySet : kPlain yX5_drySet 0 = true := by decide +kernel
theorem rX5_X5_drySet {z : kZ} {cc : ByteArray} {nL : Nat} {rm : Room} {c n pc : Nat} {lv : List (Nat × Value)} {st : List Value} {a : Nat → Nat} {E : va_W} {σ : kS} {Q : Int32 → kS → Prop} (F : kF z cc RX5 nL rm) (hd : decode cc pc = .ok (.invokevirtual 363, 3)) (hf : kFits rm 0 40 0 0 3 c n st = true) (h : wX5_drySet σ Q) (k : ∀ (v : Int32) (σ' : kS), Q v σ' → kV z (mW (zg z) a E σ') c n (pc + 3) lv (.int v :: st)) : kV z (mW (zg z) a E σ) c n pc lv (.ref (a 0) :: st) := by
  exact g_callV F (av := []) (ctX5_drySet _ _ _ a E h) (ci := 5) (q0 := 0) rfl rfl rfl wq1246 wq1248 wq100 wq114 wq1249 plX5_drySet hd hf (fun r ws' hq => by
    obtain ⟨v, σ', rfl, rfl, hq⟩ := hq
    exact k v σ' hq)
theorem plX5_bitsOf : kPlain yX5_bitsOf 1 = true := by decide +kernel
theorem rX5_X5_bitsOf {z : kZ} {cc : ByteArray} {nL : Nat} {rm : Room} {c n pc : Nat} {lv : List (Nat × Value)} {st : List Value} {ws : va_W} {l0 : Int32} {Q : Int32 → Prop} (F : kF z cc RX5 nL rm) (hd : decode cc pc = .ok (.invokestatic 366, 3)) (hf : kFits rm 0 40 0 0 3 c n st = true) (h : wX5_bitsOf l0 Q) (k : ∀ v : Int32, Q v → kV z ws c n (pc + 3) lv (.int v :: st)) : kV z ws c n pc lv (.int l0 :: st) := g_callS F (av := [.int l0]) (ctX5_bitsOf _ _ _ ws h) wq1250 wq1251 wq114 wq1252 plX5_bitsOf hd hf (fun r ws' hq => by
    obtain ⟨v, rfl, rfl, hq⟩ := hq
    exact k v hq)
set_option maxRecDepth 20000 in
theorem ctX5_year (l : Launch) (g : kG) (A : Nat → Prop) (a : Nat → Nat) (E : va_W) {σ : kS} {Q : Int32 → kS → Prop} (h : wX5_year σ Q) : kCt l yX5_year cX5_year 1 (some .int) 45 1041 0 0 g A [.ref (a 0)] (mW g a E σ) (kPi (mW g a E) Q) := by
  refine kCt.of (lv0 := [(0, .ref (a 0))]) (by decide +kernel) (Nat.le_of_ble_eq_true rfl) rfl (fun z hl hg hA F R => ?_)
  subst hl hg hA
  have F : kF z cX5_year RX5 1 { frames := 45, cells := 0, slots := 0, locals := 1041 } := F
  unfold wX5_year at h
  refine g_aload_n F dX5_year_0 0 rfl ?_
  refine rgX5_X5_yearNow F dX5_year_1 ?_
  refine g_sipush (v := (999 : Int32)) F dX5_year_4 (by decide) ?_
  refine g_icmp_ne F dX5_year_7 (tgt := 13) (by decide) (fun c1 => ?_) (fun c1 => ?_)
  · replace h := h.1 c1
    refine g_aload_n F dX5_year_13 0 rfl ?_
    refine rX5_X5_lives F dX5_year_14 rfl h (fun s2 h => ?_)
    refine g_aload_n F dX5_year_17 0 rfl ?_
    refine rX5_X5_drySet F dX5_year_18 rfl h (fun r4 s3 h => ?_)
    refine rX5_X5_bitsOf F dX5_year_21 rfl h (fun r5 h => ?_)
    exact g_iret F R rfl rfl dX5_year_24 ⟨_, _, rfl, rfl, h⟩
  replace h := h.2 c1
  refine g_bipush (v := (-3 : Int32)) F dX5_year_10 (by decide) ?_
  exact g_iret F R rfl rfl dX5_year_12 ⟨_, _, rfl, rfl, h⟩
set_option maxRecDepth 20000 in
theorem sX5_runs_100 {z : kZ} {a : Nat → Nat} {E : va_W}  {Q : kS → Prop} {P48 : kS → Int32 → Int32 → Prop} {l1 : Int32} {l2 : Int32} {l4 : Int32} {l5 : Int32} {l6 : Int32} {l7 : Int32} {σ : kS} (F : kF z cX5_runs RX5 9 { frames := 45, cells := 0, slots := 0, locals := 1041 }) (R : kR z none 0 0 (kPv (mW (zg z) a E) Q)) (hP48 : ∀ (σ : kS) (l6 : Int32) (l7 : Int32), P48 σ l6 l7 → kV z (mW (zg z) a E σ) 0 0 48 [(0, .ref (a 0)), (1, .int l1), (2, .int l2), (4, .int l4), (5, .int l5), (6, .int l6), (7, .int l7)] []) (h : wX5_runs_100 Q P48 l1 l2 l4 l5 l6 l7 σ) : kV z (mW (zg z) a E σ) 0 0 100 [(0, .ref (a 0)), (1, .int l1), (2, .int l2), (4, .int l4), (5, .int l5), (6, .int l6), (7, .int l7)] [] := by
  unfold wX5_runs_100 at h
  refine g_aload_n F dX5_runs_100 0 rfl ?_
  refine rX5_X5_lives F dX5_runs_101 rfl h (fun s22 h => ?_)
  refine g_aload_n F dX5_runs_104 0 rfl ?_
  refine rgX5_X5_dryRow F dX5_runs_105 ?_
  refine g_iload F dX5_runs_108 6 rfl ?_
  refine g_aload_n F dX5_runs_110 0 rfl ?_
  refine rX5_X5_drySet F dX5_runs_111 rfl h (fun r24 s23 h => ?_)
  obtain ⟨hc, h⟩ := h
  refine g_iast (wf := mW (zg z) a E) F mA9 hc dX5_runs_114 ?_
  refine g_name (wf := mW (zg z) a E) (fun s25 es25 => ?_)
  replace h := h s25 es25
  obtain ⟨x26, ex26⟩ : ∃ q : Int32, q = l7 + (1 : Int32) := ⟨_, rfl⟩
  replace h := h x26 ex26
  refine g_iinc (lv' := [(7, .int x26), (0, .ref (a 0)), (1, .int l1), (2, .int l2), (4, .int l4), (5, .int l5), (6, .int l6)]) (d := (1 : Int32)) F dX5_runs_115 rfl 6 rfl (by decide) ex26.symm rfl ?_
  refine g_goto F dX5_runs_118 (tgt := 48) (by decide) ?_
  exact g_sub [1, 2, 3, 4, 5, 6, 0] rfl (hP48 _ _ _ h)
set_option maxRecDepth 20000 in
theorem sX5_runs_69 {z : kZ} {a : Nat → Nat} {E : va_W}  {Q : kS → Prop} {P48 : kS → Int32 → Int32 → Prop} {l1 : Int32} {l2 : Int32} {l4 : Int32} {l5 : Int32} {l6 : Int32} {l7 : Int32} {l8 : Int32} {σ : kS} (F : kF z cX5_runs RX5 9 { frames := 45, cells := 0, slots := 0, locals := 1041 }) (R : kR z none 0 0 (kPv (mW (zg z) a E) Q)) (hP48 : ∀ (σ : kS) (l6 : Int32) (l7 : Int32), P48 σ l6 l7 → kV z (mW (zg z) a E σ) 0 0 48 [(0, .ref (a 0)), (1, .int l1), (2, .int l2), (4, .int l4), (5, .int l5), (6, .int l6), (7, .int l7)] []) (h : wX5_runs_69 Q P48 l1 l2 l4 l5 l6 l7 l8 σ) : kV z (mW (zg z) a E σ) 0 0 69 [(0, .ref (a 0)), (1, .int l1), (2, .int l2), (4, .int l4), (5, .int l5), (6, .int l6), (7, .int l7), (8, .int l8)] [] := by
  unfold wX5_runs_69 at h
  refine h (fun σ l8 => kV z (mW (zg z) a E σ) 0 0 69 [(0, .ref (a 0)), (1, .int l1), (2, .int l2), (4, .int l4), (5, .int l5), (6, .int l6), (7, .int l7), (8, .int l8)] []) (fun σ l8 h => ?_)
  refine g_iload F dX5_runs_69 7 rfl ?_
  refine g_bipush (v := (12 : Int32)) F dX5_runs_71 (by decide) ?_
  refine g_icmp_ge F dX5_runs_73 (tgt := 100) (by decide) (fun c18 => ?_) (fun c18 => ?_)
  · replace h := h.1 c18
    exact g_sub [0, 1, 2, 3, 4, 5, 6] rfl (sX5_runs_100 F R hP48 h)
  replace h := h.2 c18
  refine g_iload_n F dX5_runs_76 2 rfl ?_
  refine g_if_eq F dX5_runs_77 (tgt := 100) (by decide) (fun c19 => ?_) (fun c19 => ?_)
  · replace h := h.1 c19
    exact g_sub [0, 1, 2, 3, 4, 5, 6] rfl (sX5_runs_100 F R hP48 h)
  replace h := h.2 c19
  refine g_aload_n F dX5_runs_80 0 rfl ?_
  refine g_iload F dX5_runs_81 7 rfl ?_
  refine g_iload F dX5_runs_83 5 rfl ?_
  refine g_bipush (v := (9 : Int32)) F dX5_runs_85 (by decide) ?_
  refine g_iushr F dX5_runs_87 ?_
  refine g_bipush (v := (10 : Int32)) F dX5_runs_88 (by decide) ?_
  refine g_irem F dX5_runs_90 (by decide) ?_
  refine rX5_X5_adds F dX5_runs_91 rfl h (fun s20 h => ?_)
  obtain ⟨x21, ex21⟩ : ∃ q : Int32, q = l8 + (1 : Int32) := ⟨_, rfl⟩
  replace h := h x21 ex21
  refine g_iinc (lv' := [(8, .int x21), (0, .ref (a 0)), (1, .int l1), (2, .int l2), (4, .int l4), (5, .int l5), (6, .int l6), (7, .int l7)]) (d := (1 : Int32)) F dX5_runs_94 rfl 7 rfl (by decide) ex21.symm rfl ?_
  refine g_goto F dX5_runs_97 (tgt := 69) (by decide) ?_
  exact (g_sub [1, 2, 3, 4, 5, 6, 7, 0] rfl h)
set_option maxRecDepth 20000 in
theorem sX5_runs_143 {z : kZ} {a : Nat → Nat} {E : va_W}  {Q : kS → Prop} {l4 : Int32} {l5 : Int32} {l7 : Int32} {σ : kS} (F : kF z cX5_runs RX5 9 { frames := 45, cells := 0, slots := 0, locals := 1041 }) (R : kR z none 0 0 (kPv (mW (zg z) a E) Q)) (h : wX5_runs_143 Q l4 l5 l7 σ) : kV z (mW (zg z) a E σ) 0 0 143 [(0, .ref (a 0)), (4, .int l4), (5, .int l5), (7, .int l7)] [] := by
  unfold wX5_runs_143 at h
  refine h (fun σ l7 => kV z (mW (zg z) a E σ) 0 0 143 [(0, .ref (a 0)), (4, .int l4), (5, .int l5), (7, .int l7)] []) (fun σ l7 h => ?_)
  refine g_iload F dX5_runs_143 3 rfl ?_
  refine g_bipush (v := (36 : Int32)) F dX5_runs_145 (by decide) ?_
  refine g_icmp_ge F dX5_runs_147 (tgt := 184) (by decide) (fun c12 => ?_) (fun c12 => ?_)
  · replace h := h.1 c12
    refine g_aload_n F dX5_runs_184 0 rfl ?_
    refine g_iload F dX5_runs_185 1 rfl ?_
    refine rpX5_X5_yearNow F dX5_runs_187 ?_
    refine g_name (wf := mW (zg z) a E) (fun s13 es13 => ?_)
    replace h := h s13 es13
    refine g_aload_n F dX5_runs_190 0 rfl ?_
    refine g_iload F dX5_runs_191 2 rfl ?_
    refine rpX5_X5_paid F dX5_runs_193 ?_
    refine g_name (wf := mW (zg z) a E) (fun s14 es14 => ?_)
    replace h := h s14 es14
    exact g_vret F R rfl rfl dX5_runs_196 ⟨_, rfl, rfl, h⟩
  replace h := h.2 c12
  refine g_aload_n F dX5_runs_150 0 rfl ?_
  refine rgX5_X5_fenThen F dX5_runs_151 ?_
  refine g_iload F dX5_runs_154 3 rfl ?_
  refine g_aload_n F dX5_runs_156 0 rfl ?_
  refine rgX5_X5_fen F dX5_runs_157 ?_
  refine g_iload F dX5_runs_160 3 rfl ?_
  obtain ⟨hc, h⟩ := h
  refine g_iald (wf := mW (zg z) a E) F mA4 hc dX5_runs_162 ?_
  obtain ⟨hc, h⟩ := h
  refine g_iast (wf := mW (zg z) a E) F mA8 hc dX5_runs_163 ?_
  refine g_name (wf := mW (zg z) a E) (fun s15 es15 => ?_)
  replace h := h s15 es15
  refine g_aload_n F dX5_runs_164 0 rfl ?_
  refine rgX5_X5_fen F dX5_runs_165 ?_
  refine g_iload F dX5_runs_168 3 rfl ?_
  refine g_aload_n F dX5_runs_170 0 rfl ?_
  refine rgX5_X5_fenAside F dX5_runs_171 ?_
  refine g_iload F dX5_runs_174 3 rfl ?_
  obtain ⟨hc, h⟩ := h
  refine g_iald (wf := mW (zg z) a E) F mA7 hc dX5_runs_176 ?_
  obtain ⟨hc, h⟩ := h
  refine g_iast (wf := mW (zg z) a E) F mA4 hc dX5_runs_177 ?_
  refine g_name (wf := mW (zg z) a E) (fun s16 es16 => ?_)
  replace h := h s16 es16
  obtain ⟨x17, ex17⟩ : ∃ q : Int32, q = l7 + (1 : Int32) := ⟨_, rfl⟩
  replace h := h x17 ex17
  refine g_iinc (lv' := [(7, .int x17), (0, .ref (a 0)), (4, .int l4), (5, .int l5)]) (d := (1 : Int32)) F dX5_runs_178 rfl 3 rfl (by decide) ex17.symm rfl ?_
  refine g_goto F dX5_runs_181 (tgt := 143) (by decide) ?_
  exact (g_sub [1, 2, 3, 0] rfl h)
set_option maxRecDepth 20000 in
theorem sX5_runs_48 {z : kZ} {a : Nat → Nat} {E : va_W}  {Q : kS → Prop} {l1 : Int32} {l2 : Int32} {l4 : Int32} {l5 : Int32} {l6 : Int32} {l7 : Int32} {σ : kS} (F : kF z cX5_runs RX5 9 { frames := 45, cells := 0, slots := 0, locals := 1041 }) (R : kR z none 0 0 (kPv (mW (zg z) a E) Q)) (h : wX5_runs_48 Q l1 l2 l4 l5 l6 l7 σ) : kV z (mW (zg z) a E σ) 0 0 48 [(0, .ref (a 0)), (1, .int l1), (2, .int l2), (4, .int l4), (5, .int l5), (6, .int l6), (7, .int l7)] [] := by
  unfold wX5_runs_48 at h
  refine h (fun σ l6 l7 => kV z (mW (zg z) a E σ) 0 0 48 [(0, .ref (a 0)), (1, .int l1), (2, .int l2), (4, .int l4), (5, .int l5), (6, .int l6), (7, .int l7)] []) (fun σ l6 l7 h => ?_)
  refine g_iload F dX5_runs_48 6 rfl ?_
  refine g_iload_n F dX5_runs_50 1 rfl ?_
  refine g_icmp_ge F dX5_runs_51 (tgt := 121) (by decide) (fun c6 => ?_) (fun c6 => ?_)
  · replace h := h.1 c6
    refine g_aload_n F dX5_runs_121 0 rfl ?_
    refine g_aload_n F dX5_runs_122 0 rfl ?_
    refine rX5_X5_drySet F dX5_runs_123 rfl h (fun r8 s7 h => ?_)
    refine rpX5_X5_dryThen F dX5_runs_126 ?_
    refine g_name (wf := mW (zg z) a E) (fun s9 es9 => ?_)
    replace h := h s9 es9
    refine g_aload_n F dX5_runs_129 0 rfl ?_
    refine g_aload_n F dX5_runs_130 0 rfl ?_
    refine rgX5_X5_paid F dX5_runs_131 ?_
    refine g_iload F dX5_runs_134 4 rfl ?_
    refine g_isub F dX5_runs_136 ?_
    refine rpX5_X5_paidThen F dX5_runs_137 ?_
    refine g_name (wf := mW (zg z) a E) (fun s10 es10 => ?_)
    replace h := h s10 es10
    refine g_iconst (v := (0 : Int32)) F dX5_runs_140 (by decide) ?_
    refine g_istore (lv' := [(7, .int (0 : Int32)), (0, .ref (a 0)), (1, .int l1), (2, .int l2), (4, .int l4), (5, .int l5), (6, .int l6)]) F dX5_runs_141 rfl rfl ?_
    exact g_sub [1, 4, 5, 0] rfl (sX5_runs_143 F R h)
  replace h := h.2 c6
  refine g_iload F dX5_runs_54 5 rfl ?_
  refine g_ldcw (v := (1103515245 : Int32)) F dX5_runs_56 wq1264 ?_
  refine g_imul F dX5_runs_59 ?_
  refine g_sipush (v := (12345 : Int32)) F dX5_runs_60 (by decide) ?_
  refine g_iadd F dX5_runs_63 ?_
  refine g_topi (fun x11 ex11 => ?_)
  replace h := h x11 ex11
  refine g_istore (lv' := [(6, .int x11), (0, .ref (a 0)), (1, .int l1), (2, .int l2), (4, .int l4), (5, .int l5), (7, .int l7)]) F dX5_runs_64 rfl rfl ?_
  refine g_iconst (v := (0 : Int32)) F dX5_runs_66 (by decide) ?_
  refine g_istore (lv' := [(8, .int (0 : Int32)), (6, .int x11), (0, .ref (a 0)), (1, .int l1), (2, .int l2), (4, .int l4), (5, .int l5), (7, .int l7)]) F dX5_runs_67 rfl rfl ?_
  exact g_sub [2, 3, 4, 5, 6, 1, 7, 0] rfl (sX5_runs_69 F R (fun _ _ _ h => h) h)
set_option maxRecDepth 20000 in
theorem sX5_runs_18 {z : kZ} {a : Nat → Nat} {E : va_W}  {Q : kS → Prop} {l1 : Int32} {l2 : Int32} {l4 : Int32} {l5 : Int32} {l6 : Int32} {l7 : Int32} {σ : kS} (F : kF z cX5_runs RX5 9 { frames := 45, cells := 0, slots := 0, locals := 1041 }) (R : kR z none 0 0 (kPv (mW (zg z) a E) Q)) (h : wX5_runs_18 Q l1 l2 l4 l5 l6 l7 σ) : kV z (mW (zg z) a E σ) 0 0 18 [(0, .ref (a 0)), (1, .int l1), (2, .int l2), (4, .int l4), (5, .int l5), (6, .int l6), (7, .int l7)] [] := by
  unfold wX5_runs_18 at h
  refine h (fun σ l7 => kV z (mW (zg z) a E σ) 0 0 18 [(0, .ref (a 0)), (1, .int l1), (2, .int l2), (4, .int l4), (5, .int l5), (6, .int l6), (7, .int l7)] []) (fun σ l7 h => ?_)
  refine g_iload F dX5_runs_18 6 rfl ?_
  refine g_bipush (v := (36 : Int32)) F dX5_runs_20 (by decide) ?_
  refine g_icmp_ge F dX5_runs_22 (tgt := 45) (by decide) (fun c3 => ?_) (fun c3 => ?_)
  · replace h := h.1 c3
    refine g_iconst (v := (0 : Int32)) F dX5_runs_45 (by decide) ?_
    refine g_istore (lv' := [(7, .int (0 : Int32)), (0, .ref (a 0)), (1, .int l1), (2, .int l2), (4, .int l4), (5, .int l5), (6, .int l6)]) F dX5_runs_46 rfl rfl ?_
    exact g_sub [1, 2, 3, 4, 5, 6, 0] rfl (sX5_runs_48 F R h)
  replace h := h.2 c3
  refine g_aload_n F dX5_runs_25 0 rfl ?_
  refine rgX5_X5_fenAside F dX5_runs_26 ?_
  refine g_iload F dX5_runs_29 6 rfl ?_
  refine g_aload_n F dX5_runs_31 0 rfl ?_
  refine rgX5_X5_fen F dX5_runs_32 ?_
  refine g_iload F dX5_runs_35 6 rfl ?_
  obtain ⟨hc, h⟩ := h
  refine g_iald (wf := mW (zg z) a E) F mA4 hc dX5_runs_37 ?_
  obtain ⟨hc, h⟩ := h
  refine g_iast (wf := mW (zg z) a E) F mA7 hc dX5_runs_38 ?_
  refine g_name (wf := mW (zg z) a E) (fun s4 es4 => ?_)
  replace h := h s4 es4
  obtain ⟨x5, ex5⟩ : ∃ q : Int32, q = l7 + (1 : Int32) := ⟨_, rfl⟩
  replace h := h x5 ex5
  refine g_iinc (lv' := [(7, .int x5), (0, .ref (a 0)), (1, .int l1), (2, .int l2), (4, .int l4), (5, .int l5), (6, .int l6)]) (d := (1 : Int32)) F dX5_runs_39 rfl 6 rfl (by decide) ex5.symm rfl ?_
  refine g_goto F dX5_runs_42 (tgt := 18) (by decide) ?_
  exact (g_sub [1, 2, 3, 4, 5, 6, 0] rfl h)
set_option maxRecDepth 20000 in
theorem ctX5_runs (l : Launch) (g : kG) (A : Nat → Prop) (a : Nat → Nat) (E : va_W) {l1 : Int32} {l2 : Int32} {l3 : Int32} {σ : kS} {Q : kS → Prop} (h : wX5_runs l1 l2 l3 σ Q) : kCt l yX5_runs cX5_runs 9 none 45 1041 0 0 g A [.ref (a 0), .int l1, .int l2, .int l3] (mW g a E σ) (kPv (mW g a E) Q) := by
  refine kCt.of (lv0 := [(0, .ref (a 0)), (1, .int l1), (2, .int l2), (3, .int l3)]) (by decide +kernel) (Nat.le_of_ble_eq_true rfl) rfl (fun z hl hg hA F R => ?_)
  subst hl hg hA
  have F : kF z cX5_runs RX5 9 { frames := 45, cells := 0, slots := 0, locals := 1041 } := F
  unfold wX5_runs at h
  refine g_aload_n F dX5_runs_0 0 rfl ?_
  refine rgX5_X5_yearNow F dX5_runs_1 ?_
  refine g_topi (fun x1 ex1 => ?_)
  replace h := h x1 ex1
  refine g_istore (lv' := [(4, .int x1), (0, .ref (a 0)), (1, .int l1), (2, .int l2), (3, .int l3)]) F dX5_runs_4 rfl rfl ?_
  refine g_aload_n F dX5_runs_6 1 rfl ?_
  refine rgX5_X5_paid F dX5_runs_7 ?_
  refine g_topi (fun x2 ex2 => ?_)
  replace h := h x2 ex2
  refine g_istore (lv' := [(5, .int x2), (4, .int x1), (0, .ref (a 0)), (1, .int l1), (2, .int l2), (3, .int l3)]) F dX5_runs_10 rfl rfl ?_
  refine g_iload_n F dX5_runs_12 5 rfl ?_
  refine g_istore (lv' := [(6, .int l3), (5, .int x2), (4, .int x1), (0, .ref (a 0)), (1, .int l1), (2, .int l2), (3, .int l3)]) F dX5_runs_13 rfl rfl ?_
  refine g_iconst (v := (0 : Int32)) F dX5_runs_15 (by decide) ?_
  refine g_istore (lv' := [(7, .int (0 : Int32)), (6, .int l3), (5, .int x2), (4, .int x1), (0, .ref (a 0)), (1, .int l1), (2, .int l2), (3, .int l3)]) F dX5_runs_16 rfl rfl ?_
  exact g_sub [4, 5, 6, 3, 2, 1, 0] rfl (sX5_runs_18 F R h)
theorem plX5_runs : kPlain yX5_runs 3 = true := by decide +kernel
theorem rX5_X5_runs {z : kZ} {cc : ByteArray} {nL : Nat} {rm : Room} {c n pc : Nat} {lv : List (Nat × Value)} {st : List Value} {a : Nat → Nat} {E : va_W} {σ : kS} {l1 : Int32} {l2 : Int32} {l3 : Int32} {Q : kS → Prop} (F : kF z cc RX5 nL rm) (hd : decode cc pc = .ok (.invokevirtual 376, 3)) (hf : kFits rm 45 1041 0 0 9 c n st = true) (h : wX5_runs l1 l2 l3 σ Q) (k : ∀ σ' : kS, Q σ' → kV z (mW (zg z) a E σ') c n (pc + 3) lv st) : kV z (mW (zg z) a E σ) c n pc lv (.int l3 :: .int l2 :: .int l1 :: .ref (a 0) :: st) := by
  exact g_callV F (av := [.int l1, .int l2, .int l3]) (ctX5_runs _ _ _ a E h) (ci := 5) (q0 := 0) rfl rfl rfl wq1260 wq1262 wq101 wq114 wq1263 plX5_runs hd hf (fun r ws' hq => by
    obtain ⟨σ', rfl, rfl, hq⟩ := hq
    exact k σ' hq)
set_option maxRecDepth 20000 in
theorem ctX5_dryBehind (l : Launch) (g : kG) (A : Nat → Prop) (a : Nat → Nat) (E : va_W) {l1 : Int32} {σ : kS} {Q : Int32 → kS → Prop} (h : wX5_dryBehind l1 σ Q) : kCt l yX5_dryBehind cX5_dryBehind 2 (some .int) 46 1069 0 0 g A [.ref (a 0), .int l1] (mW g a E σ) (kPi (mW g a E) Q) := by
  refine kCt.of (lv0 := [(0, .ref (a 0)), (1, .int l1)]) (by decide +kernel) (Nat.le_of_ble_eq_true rfl) rfl (fun z hl hg hA F R => ?_)
  subst hl hg hA
  have F : kF z cX5_dryBehind RX5 2 { frames := 46, cells := 0, slots := 0, locals := 1069 } := F
  unfold wX5_dryBehind at h
  refine g_aload_n F dX5_dryBehind_0 0 rfl ?_
  refine g_iload_n F dX5_dryBehind_1 1 rfl ?_
  refine g_iconst (v := (0 : Int32)) F dX5_dryBehind_2 (by decide) ?_
  refine g_iconst (v := (0 : Int32)) F dX5_dryBehind_3 (by decide) ?_
  refine rX5_X5_runs F dX5_dryBehind_4 rfl h (fun s1 h => ?_)
  refine g_aload_n F dX5_dryBehind_7 0 rfl ?_
  refine rgX5_X5_dryThen F dX5_dryBehind_8 ?_
  exact g_iret F R rfl rfl dX5_dryBehind_11 ⟨_, _, rfl, rfl, h⟩
set_option maxRecDepth 20000 in
theorem sX5_judged_4 {z : kZ} {a : Nat → Nat} {E : va_W}  {Q : Int32 → kS → Prop} {l1 : Int32} {l2 : Int32} {l3 : Int32} {σ : kS} (F : kF z cX5_judged RX5 4 { frames := 1, cells := 0, slots := 0, locals := 62 }) (R : kR z (some .int) 0 0 (kPi (mW (zg z) a E) Q)) (h : wX5_judged_4 Q l1 l2 l3 σ) : kV z (mW (zg z) a E σ) 0 0 4 [(0, .ref (a 0)), (1, .int l1), (2, .int l2), (3, .int l3)] [] := by
  unfold wX5_judged_4 at h
  refine h (fun l2 l3 => kV z (mW (zg z) a E σ) 0 0 4 [(0, .ref (a 0)), (1, .int l1), (2, .int l2), (3, .int l3)] []) (fun l2 l3 h => ?_)
  refine g_iload_n F dX5_judged_4 3 rfl ?_
  refine g_iload_n F dX5_judged_5 1 rfl ?_
  refine g_icmp_ge F dX5_judged_6 (tgt := 47) (by decide) (fun c1 => ?_) (fun c1 => ?_)
  · replace h := h.1 c1
    refine g_iload_n F dX5_judged_47 2 rfl ?_
    exact g_iret F R rfl rfl dX5_judged_48 ⟨_, _, rfl, rfl, h⟩
  replace h := h.2 c1
  refine g_iload_n F dX5_judged_9 2 rfl ?_
  refine g_iconst (v := (-1 : Int32)) F dX5_judged_10 (by decide) ?_
  refine g_icmp_eq F dX5_judged_11 (tgt := 35) (by decide) (fun c2 => ?_) (fun c2 => ?_)
  · replace h := h.1 c2
    refine g_iload_n F dX5_judged_35 3 rfl ?_
    refine g_goto F dX5_judged_36 (tgt := 40) (by decide) ?_
    refine g_istore_n (lv' := [(2, .int l3), (0, .ref (a 0)), (1, .int l1), (3, .int l3)]) F dX5_judged_40 rfl rfl ?_
    obtain ⟨x3, ex3⟩ : ∃ q : Int32, q = l3 + (1 : Int32) := ⟨_, rfl⟩
    replace h := h x3 ex3
    refine g_iinc (lv' := [(3, .int x3), (2, .int l3), (0, .ref (a 0)), (1, .int l1)]) (d := (1 : Int32)) F dX5_judged_41 rfl 3 rfl (by decide) ex3.symm rfl ?_
    refine g_goto F dX5_judged_44 (tgt := 4) (by decide) ?_
    exact (g_sub [2, 3, 1, 0] rfl h)
  replace h := h.2 c2
  refine g_aload_n F dX5_judged_14 0 rfl ?_
  refine rgX5_X5_dryRow F dX5_judged_15 ?_
  refine g_iload_n F dX5_judged_18 3 rfl ?_
  obtain ⟨hc, h⟩ := h
  refine g_iald (wf := mW (zg z) a E) F mA9 hc dX5_judged_19 ?_
  refine rX5_X5_bitsOf F dX5_judged_20 rfl h (fun r4 h => ?_)
  refine g_aload_n F dX5_judged_23 0 rfl ?_
  refine rgX5_X5_dryRow F dX5_judged_24 ?_
  refine g_iload_n F dX5_judged_27 2 rfl ?_
  obtain ⟨hc, h⟩ := h
  refine g_iald (wf := mW (zg z) a E) F mA9 hc dX5_judged_28 ?_
  refine rX5_X5_bitsOf F dX5_judged_29 rfl h (fun r5 h => ?_)
  refine g_icmp_le F dX5_judged_32 (tgt := 39) (by decide) (fun c6 => ?_) (fun c6 => ?_)
  · replace h := h.1 c6
    refine g_iload_n F dX5_judged_39 2 rfl ?_
    refine g_istore_n (lv' := [(2, .int l2), (0, .ref (a 0)), (1, .int l1), (3, .int l3)]) F dX5_judged_40 rfl rfl ?_
    obtain ⟨x7, ex7⟩ : ∃ q : Int32, q = l3 + (1 : Int32) := ⟨_, rfl⟩
    replace h := h x7 ex7
    refine g_iinc (lv' := [(3, .int x7), (2, .int l2), (0, .ref (a 0)), (1, .int l1)]) (d := (1 : Int32)) F dX5_judged_41 rfl 3 rfl (by decide) ex7.symm rfl ?_
    refine g_goto F dX5_judged_44 (tgt := 4) (by decide) ?_
    exact (g_sub [2, 3, 1, 0] rfl h)
  replace h := h.2 c6
  refine g_iload_n F dX5_judged_35 3 rfl ?_
  refine g_goto F dX5_judged_36 (tgt := 40) (by decide) ?_
  refine g_istore_n (lv' := [(2, .int l3), (0, .ref (a 0)), (1, .int l1), (3, .int l3)]) F dX5_judged_40 rfl rfl ?_
  obtain ⟨x8, ex8⟩ : ∃ q : Int32, q = l3 + (1 : Int32) := ⟨_, rfl⟩
  replace h := h x8 ex8
  refine g_iinc (lv' := [(3, .int x8), (2, .int l3), (0, .ref (a 0)), (1, .int l1)]) (d := (1 : Int32)) F dX5_judged_41 rfl 3 rfl (by decide) ex8.symm rfl ?_
  refine g_goto F dX5_judged_44 (tgt := 4) (by decide) ?_
  exact (g_sub [2, 3, 1, 0] rfl h)
set_option maxRecDepth 20000 in
theorem ctX5_judged (l : Launch) (g : kG) (A : Nat → Prop) (a : Nat → Nat) (E : va_W) {l1 : Int32} {σ : kS} {Q : Int32 → kS → Prop} (h : wX5_judged l1 σ Q) : kCt l yX5_judged cX5_judged 4 (some .int) 1 62 0 0 g A [.ref (a 0), .int l1] (mW g a E σ) (kPi (mW g a E) Q) := by
  refine kCt.of (lv0 := [(0, .ref (a 0)), (1, .int l1)]) (by decide +kernel) (Nat.le_of_ble_eq_true rfl) rfl (fun z hl hg hA F R => ?_)
  subst hl hg hA
  have F : kF z cX5_judged RX5 4 { frames := 1, cells := 0, slots := 0, locals := 62 } := F
  unfold wX5_judged at h
  refine g_iconst (v := (-1 : Int32)) F dX5_judged_0 (by decide) ?_
  refine g_istore_n (lv' := [(2, .int (-1 : Int32)), (0, .ref (a 0)), (1, .int l1)]) F dX5_judged_1 rfl rfl ?_
  refine g_iconst (v := (0 : Int32)) F dX5_judged_2 (by decide) ?_
  refine g_istore_n (lv' := [(3, .int (0 : Int32)), (2, .int (-1 : Int32)), (0, .ref (a 0)), (1, .int l1)]) F dX5_judged_3 rfl rfl ?_
  exact g_sub [2, 3, 1, 0] rfl (sX5_judged_4 F R h)
set_option maxRecDepth 20000 in
theorem sX5_kept_37 {z : kZ} {a : Nat → Nat} {E : va_W}  {Q : Int32 → kS → Prop} {P7 : Int32 → Int32 → Int32 → Prop} {l1 : Int32} {l2 : Int32} {l4 : Int32} {l5 : Int32} {ks0 : Int32} {ks1 : Int32} {σ : kS} (F : kF z cX5_kept RX5 6 { frames := 1, cells := 0, slots := 0, locals := 62 }) (R : kR z (some .int) 0 0 (kPi (mW (zg z) a E) Q)) (hP7 : ∀ (l2 : Int32) (l3 : Int32) (l4 : Int32), P7 l2 l3 l4 → kV z (mW (zg z) a E σ) 0 0 7 [(0, .ref (a 0)), (1, .int l1), (2, .int l2), (3, .int l3), (4, .int l4)] []) (h : wX5_kept_37 Q P7 l1 l2 l4 l5 ks0 ks1 σ) : kV z (mW (zg z) a E σ) 0 0 37 [(0, .ref (a 0)), (1, .int l1), (2, .int l2), (4, .int l4), (5, .int l5)] [.int ks0, .int ks1] := by
  unfold wX5_kept_37 at h
  refine g_iadd F dX5_kept_37 ?_
  refine g_topi (fun x4 ex4 => ?_)
  replace h := h x4 ex4
  refine g_istore_n (lv' := [(3, .int x4), (0, .ref (a 0)), (1, .int l1), (2, .int l2), (4, .int l4), (5, .int l5)]) F dX5_kept_38 rfl rfl ?_
  refine g_iload F dX5_kept_39 5 rfl ?_
  refine g_iload_n F dX5_kept_41 3 rfl ?_
  refine g_icmp_le F dX5_kept_42 (tgt := 50) (by decide) (fun c5 => ?_) (fun c5 => ?_)
  · replace h := h.1 c5
    refine g_iload_n F dX5_kept_50 3 rfl ?_
    refine g_istore_n (lv' := [(2, .int l2), (3, .int x4), (0, .ref (a 0)), (1, .int l1), (4, .int l4), (5, .int l5)]) F dX5_kept_51 rfl rfl ?_
    obtain ⟨x6, ex6⟩ : ∃ q : Int32, q = l4 + (1 : Int32) := ⟨_, rfl⟩
    replace h := h x6 ex6
    refine g_iinc (lv' := [(4, .int x6), (2, .int l2), (3, .int x4), (0, .ref (a 0)), (1, .int l1), (5, .int l5)]) (d := (1 : Int32)) F dX5_kept_52 rfl 4 rfl (by decide) ex6.symm rfl ?_
    refine g_goto F dX5_kept_55 (tgt := 7) (by decide) ?_
    exact g_sub [3, 4, 1, 2, 0] rfl (hP7 _ _ _ h)
  replace h := h.2 c5
  refine g_iload F dX5_kept_45 5 rfl ?_
  refine g_goto F dX5_kept_47 (tgt := 51) (by decide) ?_
  refine g_istore_n (lv' := [(2, .int l5), (3, .int x4), (0, .ref (a 0)), (1, .int l1), (4, .int l4), (5, .int l5)]) F dX5_kept_51 rfl rfl ?_
  obtain ⟨x7, ex7⟩ : ∃ q : Int32, q = l4 + (1 : Int32) := ⟨_, rfl⟩
  replace h := h x7 ex7
  refine g_iinc (lv' := [(4, .int x7), (2, .int l5), (3, .int x4), (0, .ref (a 0)), (1, .int l1), (5, .int l5)]) (d := (1 : Int32)) F dX5_kept_52 rfl 4 rfl (by decide) ex7.symm rfl ?_
  refine g_goto F dX5_kept_55 (tgt := 7) (by decide) ?_
  exact g_sub [3, 4, 1, 2, 0] rfl (hP7 _ _ _ h)
set_option maxRecDepth 20000 in
theorem sX5_kept_7 {z : kZ} {a : Nat → Nat} {E : va_W}  {Q : Int32 → kS → Prop} {l1 : Int32} {l2 : Int32} {l3 : Int32} {l4 : Int32} {σ : kS} (F : kF z cX5_kept RX5 6 { frames := 1, cells := 0, slots := 0, locals := 62 }) (R : kR z (some .int) 0 0 (kPi (mW (zg z) a E) Q)) (h : wX5_kept_7 Q l1 l2 l3 l4 σ) : kV z (mW (zg z) a E σ) 0 0 7 [(0, .ref (a 0)), (1, .int l1), (2, .int l2), (3, .int l3), (4, .int l4)] [] := by
  unfold wX5_kept_7 at h
  refine h (fun l2 l3 l4 => kV z (mW (zg z) a E σ) 0 0 7 [(0, .ref (a 0)), (1, .int l1), (2, .int l2), (3, .int l3), (4, .int l4)] []) (fun l2 l3 l4 h => ?_)
  refine g_iload F dX5_kept_7 4 rfl ?_
  refine g_iload_n F dX5_kept_9 1 rfl ?_
  refine g_icmp_ge F dX5_kept_10 (tgt := 58) (by decide) (fun c1 => ?_) (fun c1 => ?_)
  · replace h := h.1 c1
    refine g_iload_n F dX5_kept_58 3 rfl ?_
    exact g_iret F R rfl rfl dX5_kept_59 ⟨_, _, rfl, rfl, h⟩
  replace h := h.2 c1
  refine g_aload_n F dX5_kept_13 0 rfl ?_
  refine rgX5_X5_dryRow F dX5_kept_14 ?_
  refine g_iload F dX5_kept_17 4 rfl ?_
  obtain ⟨hc, h⟩ := h
  refine g_iald (wf := mW (zg z) a E) F mA9 hc dX5_kept_19 ?_
  refine rX5_X5_bitsOf F dX5_kept_20 rfl h (fun r2 h => ?_)
  refine g_istore (lv' := [(5, .int r2), (0, .ref (a 0)), (1, .int l1), (2, .int l2), (3, .int l3), (4, .int l4)]) F dX5_kept_23 rfl rfl ?_
  refine g_iload_n F dX5_kept_25 4 rfl ?_
  refine g_iload F dX5_kept_26 0 rfl ?_
  refine g_iload_n F dX5_kept_28 3 rfl ?_
  refine g_icmp_lt F dX5_kept_29 (tgt := 36) (by decide) (fun c3 => ?_) (fun c3 => ?_)
  · replace h := h.1 c3
    refine g_iconst (v := (0 : Int32)) F dX5_kept_36 (by decide) ?_
    exact g_sub [1, 2, 3, 5, 0] rfl (sX5_kept_37 F R (fun _ _ _ h => h) h)
  replace h := h.2 c3
  refine g_iconst (v := (1 : Int32)) F dX5_kept_32 (by decide) ?_
  refine g_goto F dX5_kept_33 (tgt := 37) (by decide) ?_
  exact g_sub [1, 2, 3, 5, 0] rfl (sX5_kept_37 F R (fun _ _ _ h => h) h)
set_option maxRecDepth 20000 in
theorem ctX5_kept (l : Launch) (g : kG) (A : Nat → Prop) (a : Nat → Nat) (E : va_W) {l1 : Int32} {σ : kS} {Q : Int32 → kS → Prop} (h : wX5_kept l1 σ Q) : kCt l yX5_kept cX5_kept 6 (some .int) 1 62 0 0 g A [.ref (a 0), .int l1] (mW g a E σ) (kPi (mW g a E) Q) := by
  refine kCt.of (lv0 := [(0, .ref (a 0)), (1, .int l1)]) (by decide +kernel) (Nat.le_of_ble_eq_true rfl) rfl (fun z hl hg hA F R => ?_)
  subst hl hg hA
  have F : kF z cX5_kept RX5 6 { frames := 1, cells := 0, slots := 0, locals := 62 } := F
  unfold wX5_kept at h
  refine g_iconst (v := (0 : Int32)) F dX5_kept_0 (by decide) ?_
  refine g_istore_n (lv' := [(2, .int (0 : Int32)), (0, .ref (a 0)), (1, .int l1)]) F dX5_kept_1 rfl rfl ?_
  refine g_iconst (v := (0 : Int32)) F dX5_kept_2 (by decide) ?_
  refine g_istore_n (lv' := [(3, .int (0 : Int32)), (2, .int (0 : Int32)), (0, .ref (a 0)), (1, .int l1)]) F dX5_kept_3 rfl rfl ?_
  refine g_iconst (v := (0 : Int32)) F dX5_kept_4 (by decide) ?_
  refine g_istore (lv' := [(4, .int (0 : Int32)), (3, .int (0 : Int32)), (2, .int (0 : Int32)), (0, .ref (a 0)), (1, .int l1)]) F dX5_kept_5 rfl rfl ?_
  exact g_sub [3, 4, 2, 1, 0] rfl (sX5_kept_7 F R h)
theorem plX5_judged : kPlain yX5_judged 1 = true := by decide +kernel
theorem rX5_X5_judged {z : kZ} {cc : ByteArray} {nL : Nat} {rm : Room} {c n pc : Nat} {lv : List (Nat × Value)} {st : List Value} {a : Nat → Nat} {E : va_W} {σ : kS} {l1 : Int32} {Q : Int32 → kS → Prop} (F : kF z cc RX5 nL rm) (hd : decode cc pc = .ok (.invokevirtual 386, 3)) (hf : kFits rm 1 62 0 0 4 c n st = true) (h : wX5_judged l1 σ Q) (k : ∀ (v : Int32) (σ' : kS), Q v σ' → kV z (mW (zg z) a E σ') c n (pc + 3) lv (.int v :: st)) : kV z (mW (zg z) a E σ) c n pc lv (.int l1 :: .ref (a 0) :: st) := by
  exact g_callV F (av := [.int l1]) (ctX5_judged _ _ _ a E h) (ci := 5) (q0 := 0) rfl rfl rfl wq1265 wq1267 wq102 wq114 wq1268 plX5_judged hd hf (fun r ws' hq => by
    obtain ⟨v, σ', rfl, rfl, hq⟩ := hq
    exact k v σ' hq)
theorem plX5_kept : kPlain yX5_kept 1 = true := by decide +kernel
theorem rX5_X5_kept {z : kZ} {cc : ByteArray} {nL : Nat} {rm : Room} {c n pc : Nat} {lv : List (Nat × Value)} {st : List Value} {a : Nat → Nat} {E : va_W} {σ : kS} {l1 : Int32} {Q : Int32 → kS → Prop} (F : kF z cc RX5 nL rm) (hd : decode cc pc = .ok (.invokevirtual 389, 3)) (hf : kFits rm 1 62 0 0 6 c n st = true) (h : wX5_kept l1 σ Q) (k : ∀ (v : Int32) (σ' : kS), Q v σ' → kV z (mW (zg z) a E σ') c n (pc + 3) lv (.int v :: st)) : kV z (mW (zg z) a E σ) c n pc lv (.int l1 :: .ref (a 0) :: st) := by
  exact g_callV F (av := [.int l1]) (ctX5_kept _ _ _ a E h) (ci := 5) (q0 := 0) rfl rfl rfl wq1269 wq1271 wq103 wq114 wq1272 plX5_kept hd hf (fun r ws' hq => by
    obtain ⟨v, σ', rfl, rfl, hq⟩ := hq
    exact k v σ' hq)
set_option maxRecDepth 20000 in
theorem sX5_run_47 {z : kZ} {a : Nat → Nat} {E : va_W}  {Q : Int32 → kS → Prop} {l1 : Int32} {l2 : Int32} {ks0 : Int32} {σ : kS} (F : kF z cX5_run RX5 5 { frames := 46, cells := 0, slots := 0, locals := 1069 }) (R : kR z (some .int) 0 0 (kPi (mW (zg z) a E) Q)) (h : wX5_run_47 Q l1 l2 ks0 σ) : kV z (mW (zg z) a E σ) 0 0 47 [(0, .ref (a 0)), (1, .int l1), (2, .int l2)] [.int ks0] := by
  unfold wX5_run_47 at h
  refine g_istore_n (lv' := [(3, .int ks0), (0, .ref (a 0)), (1, .int l1), (2, .int l2)]) F dX5_run_47 rfl rfl ?_
  refine g_iload_n F dX5_run_48 2 rfl ?_
  refine g_i2l F dX5_run_49 ?_
  refine g_lconst (v := (0 : Int64)) F dX5_run_50 (by decide) ?_
  refine g_ldc2 (v := (30 : Int64)) F dX5_run_51 wq1259 ?_
  refine rX5_X5_in F dX5_run_54 rfl h (fun r7 h => ?_)
  refine g_if_eq F dX5_run_57 (tgt := 64) (by decide) (fun c8 => ?_) (fun c8 => ?_)
  · replace h := h.1 c8
    refine g_bipush (v := (-2 : Int32)) F dX5_run_64 (by decide) ?_
    exact g_iret F R rfl rfl dX5_run_66 ⟨_, _, rfl, rfl, h⟩
  replace h := h.2 c8
  refine g_iload_n F dX5_run_60 0 rfl ?_
  refine g_if_ne F dX5_run_61 (tgt := 67) (by decide) (fun c9 => ?_) (fun c9 => ?_)
  · replace h := h.1 c9
    refine g_aload_n F dX5_run_67 1 rfl ?_
    refine g_iload_n F dX5_run_68 2 rfl ?_
    refine g_iconst (v := (0 : Int32)) F dX5_run_69 (by decide) ?_
    refine g_iconst (v := (0 : Int32)) F dX5_run_70 (by decide) ?_
    refine rX5_X5_runs F dX5_run_71 rfl h (fun s10 h => ?_)
    refine g_iload_n F dX5_run_74 3 rfl ?_
    refine g_iconst (v := (4 : Int32)) F dX5_run_75 (by decide) ?_
    refine g_icmp_le F dX5_run_76 (tgt := 98) (by decide) (fun c11 => ?_) (fun c11 => ?_)
    · replace h := h.1 c11
      refine g_iload_n F dX5_run_98 3 rfl ?_
      refine g_iconst (v := (2 : Int32)) F dX5_run_99 (by decide) ?_
      refine g_icmp_ge F dX5_run_100 (tgt := 119) (by decide) (fun c12 => ?_) (fun c12 => ?_)
      · replace h := h.1 c12
        refine g_aload_n F dX5_run_119 1 rfl ?_
        refine g_iload_n F dX5_run_120 2 rfl ?_
        refine rX5_X5_judged F dX5_run_121 rfl h (fun r14 s13 h => ?_)
        refine g_istore (lv' := [(4, .int r14), (3, .int ks0), (0, .ref (a 0)), (1, .int l1), (2, .int l2)]) F dX5_run_124 rfl rfl ?_
        refine g_iload_n F dX5_run_126 4 rfl ?_
        refine g_iconst (v := (2 : Int32)) F dX5_run_127 (by decide) ?_
        refine g_icmp_ne F dX5_run_128 (tgt := 136) (by decide) (fun c15 => ?_) (fun c15 => ?_)
        · replace h := h.1 c15
          refine g_iload_n F dX5_run_136 4 rfl ?_
          refine g_iconst (v := (4 : Int32)) F dX5_run_137 (by decide) ?_
          refine g_icmp_ne F dX5_run_138 (tgt := 149) (by decide) (fun c16 => ?_) (fun c16 => ?_)
          · replace h := h.1 c16
            refine g_iload F dX5_run_149 0 rfl ?_
            refine g_iconst (v := (-1 : Int32)) F dX5_run_151 (by decide) ?_
            refine g_icmp_ne F dX5_run_152 (tgt := 159) (by decide) (fun c17 => ?_) (fun c17 => ?_)
            · replace h := h.1 c17
              refine g_aload_n F dX5_run_159 2 rfl ?_
              refine rgX5_X5_dryRow F dX5_run_160 ?_
              refine g_iload F dX5_run_163 0 rfl ?_
              obtain ⟨hc, h⟩ := h
              refine g_iald (wf := mW (zg z) a E) F mA9 hc dX5_run_165 ?_
              refine rX5_X5_bitsOf F dX5_run_166 rfl h (fun r18 h => ?_)
              exact g_iret F R rfl rfl dX5_run_169 ⟨_, _, rfl, rfl, h⟩
            replace h := h.2 c17
            refine g_iconst (v := (-1 : Int32)) F dX5_run_155 (by decide) ?_
            refine g_goto F dX5_run_156 (tgt := 169) (by decide) ?_
            exact g_iret F R rfl rfl dX5_run_169 ⟨_, _, rfl, rfl, h⟩
          replace h := h.2 c16
          refine g_aload_n F dX5_run_141 2 rfl ?_
          refine g_iload_n F dX5_run_142 3 rfl ?_
          refine rX5_X5_kept F dX5_run_143 rfl h (fun r20 s19 h => ?_)
          refine g_goto F dX5_run_146 (tgt := 169) (by decide) ?_
          exact g_iret F R rfl rfl dX5_run_169 ⟨_, _, rfl, rfl, h⟩
        replace h := h.2 c15
        refine g_iload F dX5_run_131 0 rfl ?_
        refine g_goto F dX5_run_133 (tgt := 169) (by decide) ?_
        exact g_iret F R rfl rfl dX5_run_169 ⟨_, _, rfl, rfl, h⟩
      replace h := h.2 c12
      refine g_iload_n F dX5_run_103 3 rfl ?_
      refine g_if_ne F dX5_run_104 (tgt := 114) (by decide) (fun c21 => ?_) (fun c21 => ?_)
      · replace h := h.1 c21
        refine g_aload_n F dX5_run_114 1 rfl ?_
        refine rgX5_X5_paidThen F dX5_run_115 ?_
        exact g_iret F R rfl rfl dX5_run_118 ⟨_, _, rfl, rfl, h⟩
      replace h := h.2 c21
      refine g_aload_n F dX5_run_107 1 rfl ?_
      refine rgX5_X5_dryThen F dX5_run_108 ?_
      refine g_goto F dX5_run_111 (tgt := 118) (by decide) ?_
      exact g_iret F R rfl rfl dX5_run_118 ⟨_, _, rfl, rfl, h⟩
    replace h := h.2 c11
    refine g_aload_n F dX5_run_79 1 rfl ?_
    refine rgX5_X5_fenThen F dX5_run_80 ?_
    refine g_iconst (v := (3 : Int32)) F dX5_run_83 (by decide) ?_
    refine g_iload_n F dX5_run_84 3 rfl ?_
    refine g_bipush (v := (100 : Int32)) F dX5_run_85 (by decide) ?_
    refine g_irem F dX5_run_87 (by decide) ?_
    refine g_imul F dX5_run_88 ?_
    refine g_iload_n F dX5_run_89 3 rfl ?_
    refine g_bipush (v := (100 : Int32)) F dX5_run_90 (by decide) ?_
    refine g_idiv F dX5_run_92 (by decide) ?_
    refine g_iadd F dX5_run_93 ?_
    refine g_iconst (v := (1 : Int32)) F dX5_run_94 (by decide) ?_
    refine g_isub F dX5_run_95 ?_
    obtain ⟨hc, h⟩ := h
    refine g_iald (wf := mW (zg z) a E) F mA8 hc dX5_run_96 ?_
    exact g_iret F R rfl rfl dX5_run_97 ⟨_, _, rfl, rfl, h⟩
  replace h := h.2 c9
  refine g_bipush (v := (-2 : Int32)) F dX5_run_64 (by decide) ?_
  exact g_iret F R rfl rfl dX5_run_66 ⟨_, _, rfl, rfl, h⟩
set_option maxRecDepth 20000 in
theorem sX5_run_42 {z : kZ} {a : Nat → Nat} {E : va_W}  {Q : Int32 → kS → Prop} {l1 : Int32} {l2 : Int32} {σ : kS} (F : kF z cX5_run RX5 5 { frames := 46, cells := 0, slots := 0, locals := 1069 }) (R : kR z (some .int) 0 0 (kPi (mW (zg z) a E) Q)) (h : wX5_run_42 Q l1 l2 σ) : kV z (mW (zg z) a E σ) 0 0 42 [(0, .ref (a 0)), (1, .int l1), (2, .int l2)] [] := by
  unfold wX5_run_42 at h
  refine g_iconst (v := (1 : Int32)) F dX5_run_42 (by decide) ?_
  refine g_goto F dX5_run_43 (tgt := 47) (by decide) ?_
  exact (sX5_run_47 F R h)
set_option maxRecDepth 20000 in
theorem sX5_run_46 {z : kZ} {a : Nat → Nat} {E : va_W}  {Q : Int32 → kS → Prop} {l1 : Int32} {l2 : Int32} {σ : kS} (F : kF z cX5_run RX5 5 { frames := 46, cells := 0, slots := 0, locals := 1069 }) (R : kR z (some .int) 0 0 (kPi (mW (zg z) a E) Q)) (h : wX5_run_46 Q l1 l2 σ) : kV z (mW (zg z) a E σ) 0 0 46 [(0, .ref (a 0)), (1, .int l1), (2, .int l2)] [] := by
  unfold wX5_run_46 at h
  refine g_iconst (v := (0 : Int32)) F dX5_run_46 (by decide) ?_
  exact (sX5_run_47 F R h)
set_option maxRecDepth 20000 in
theorem ctX5_run (l : Launch) (g : kG) (A : Nat → Prop) (a : Nat → Nat) (E : va_W) {l1 : Int32} {l2 : Int32} {σ : kS} {Q : Int32 → kS → Prop} (h : wX5_run l1 l2 σ Q) : kCt l yX5_run cX5_run 5 (some .int) 46 1069 0 0 g A [.ref (a 0), .int l1, .int l2] (mW g a E σ) (kPi (mW g a E) Q) := by
  refine kCt.of (lv0 := [(0, .ref (a 0)), (1, .int l1), (2, .int l2)]) (by decide +kernel) (Nat.le_of_ble_eq_true rfl) rfl (fun z hl hg hA F R => ?_)
  subst hl hg hA
  have F : kF z cX5_run RX5 5 { frames := 46, cells := 0, slots := 0, locals := 1069 } := F
  unfold wX5_run at h
  refine g_iload_n F dX5_run_0 2 rfl ?_
  refine g_i2l F dX5_run_1 ?_
  refine g_lconst (v := (0 : Int64)) F dX5_run_2 (by decide) ?_
  refine g_ldc2 (v := (4 : Int64)) F dX5_run_3 wq1257 ?_
  refine rX5_X5_in F dX5_run_6 rfl h (fun r1 h => ?_)
  refine g_if_ne F dX5_run_9 (tgt := 42) (by decide) (fun c2 => ?_) (fun c2 => ?_)
  · replace h := h.1 c2
    exact (sX5_run_42 F R h)
  replace h := h.2 c2
  refine g_iload_n F dX5_run_12 2 rfl ?_
  refine g_bipush (v := (100 : Int32)) F dX5_run_13 (by decide) ?_
  refine g_idiv F dX5_run_15 (by decide) ?_
  refine g_i2l F dX5_run_16 ?_
  refine g_lconst (v := (1 : Int64)) F dX5_run_17 (by decide) ?_
  refine g_ldc2 (v := (3 : Int64)) F dX5_run_18 wq1258 ?_
  refine rX5_X5_in F dX5_run_21 rfl h (fun r3 h => ?_)
  refine g_if_eq F dX5_run_24 (tgt := 46) (by decide) (fun c4 => ?_) (fun c4 => ?_)
  · replace h := h.1 c4
    exact (sX5_run_46 F R h)
  replace h := h.2 c4
  refine g_iload_n F dX5_run_27 2 rfl ?_
  refine g_bipush (v := (100 : Int32)) F dX5_run_28 (by decide) ?_
  refine g_irem F dX5_run_30 (by decide) ?_
  refine g_i2l F dX5_run_31 ?_
  refine g_lconst (v := (0 : Int64)) F dX5_run_32 (by decide) ?_
  refine g_ldc2 (v := (11 : Int64)) F dX5_run_33 wq968 ?_
  refine rX5_X5_in F dX5_run_36 rfl h (fun r5 h => ?_)
  refine g_if_eq F dX5_run_39 (tgt := 46) (by decide) (fun c6 => ?_) (fun c6 => ?_)
  · replace h := h.1 c6
    exact (sX5_run_46 F R h)
  replace h := h.2 c6
  exact (sX5_run_42 F R h)
set_option maxRecDepth 20000 in
theorem sX5_first_36 {z : kZ} {a : Nat → Nat} {E : va_W}  {Q : Int32 → kS → Prop} {l1 : Int32} {l2 : Int32} {l3 : Int32} {σ : kS} (F : kF z cX5_first RX5 4 { frames := 46, cells := 0, slots := 0, locals := 1069 }) (R : kR z (some .int) 0 0 (kPi (mW (zg z) a E) Q)) (h : wX5_first_36 Q l1 l2 l3 σ) : kV z (mW (zg z) a E σ) 0 0 36 [(0, .ref (a 0)), (1, .int l1), (2, .int l2), (3, .int l3)] [] := by
  unfold wX5_first_36 at h
  refine h (fun l3 => kV z (mW (zg z) a E σ) 0 0 36 [(0, .ref (a 0)), (1, .int l1), (2, .int l2), (3, .int l3)] []) (fun l3 h => ?_)
  refine g_iload_n F dX5_first_36 3 rfl ?_
  refine g_iload_n F dX5_first_37 1 rfl ?_
  refine g_icmp_ge F dX5_first_38 (tgt := 62) (by decide) (fun c6 => ?_) (fun c6 => ?_)
  · replace h := h.1 c6
    refine g_iconst (v := (-1 : Int32)) F dX5_first_62 (by decide) ?_
    exact g_iret F R rfl rfl dX5_first_63 ⟨_, _, rfl, rfl, h⟩
  replace h := h.2 c6
  refine g_aload_n F dX5_first_41 0 rfl ?_
  refine rgX5_X5_dryRow F dX5_first_42 ?_
  refine g_iload_n F dX5_first_45 3 rfl ?_
  obtain ⟨hc, h⟩ := h
  refine g_iald (wf := mW (zg z) a E) F mA9 hc dX5_first_46 ?_
  refine rX5_X5_bitsOf F dX5_first_47 rfl h (fun r7 h => ?_)
  refine g_iload_n F dX5_first_50 2 rfl ?_
  refine g_icmp_lt F dX5_first_51 (tgt := 56) (by decide) (fun c8 => ?_) (fun c8 => ?_)
  · replace h := h.1 c8
    obtain ⟨x9, ex9⟩ : ∃ q : Int32, q = l3 + (1 : Int32) := ⟨_, rfl⟩
    replace h := h x9 ex9
    refine g_iinc (lv' := [(3, .int x9), (0, .ref (a 0)), (1, .int l1), (2, .int l2)]) (d := (1 : Int32)) F dX5_first_56 rfl 3 rfl (by decide) ex9.symm rfl ?_
    refine g_goto F dX5_first_59 (tgt := 36) (by decide) ?_
    exact (g_sub [1, 2, 3, 0] rfl h)
  replace h := h.2 c8
  refine g_iload_n F dX5_first_54 3 rfl ?_
  exact g_iret F R rfl rfl dX5_first_55 ⟨_, _, rfl, rfl, h⟩
set_option maxRecDepth 20000 in
theorem ctX5_first (l : Launch) (g : kG) (A : Nat → Prop) (a : Nat → Nat) (E : va_W) {l1 : Int32} {l2 : Int32} {σ : kS} {Q : Int32 → kS → Prop} (h : wX5_first l1 l2 σ Q) : kCt l yX5_first cX5_first 4 (some .int) 46 1069 0 0 g A [.ref (a 0), .int l1, .int l2] (mW g a E σ) (kPi (mW g a E) Q) := by
  refine kCt.of (lv0 := [(0, .ref (a 0)), (1, .int l1), (2, .int l2)]) (by decide +kernel) (Nat.le_of_ble_eq_true rfl) rfl (fun z hl hg hA F R => ?_)
  subst hl hg hA
  have F : kF z cX5_first RX5 4 { frames := 46, cells := 0, slots := 0, locals := 1069 } := F
  unfold wX5_first at h
  refine g_iload_n F dX5_first_0 1 rfl ?_
  refine g_i2l F dX5_first_1 ?_
  refine g_lconst (v := (0 : Int64)) F dX5_first_2 (by decide) ?_
  refine g_ldc2 (v := (30 : Int64)) F dX5_first_3 wq1259 ?_
  refine rX5_X5_in F dX5_first_6 rfl h (fun r1 h => ?_)
  refine g_if_eq F dX5_first_9 (tgt := 24) (by decide) (fun c2 => ?_) (fun c2 => ?_)
  · replace h := h.1 c2
    refine g_bipush (v := (-2 : Int32)) F dX5_first_24 (by decide) ?_
    exact g_iret F R rfl rfl dX5_first_26 ⟨_, _, rfl, rfl, h⟩
  replace h := h.2 c2
  refine g_iload_n F dX5_first_12 2 rfl ?_
  refine g_i2l F dX5_first_13 ?_
  refine g_lconst (v := (1 : Int64)) F dX5_first_14 (by decide) ?_
  refine g_ldc2 (v := (12 : Int64)) F dX5_first_15 wq1277 ?_
  refine rX5_X5_in F dX5_first_18 rfl h (fun r3 h => ?_)
  refine g_if_ne F dX5_first_21 (tgt := 27) (by decide) (fun c4 => ?_) (fun c4 => ?_)
  · replace h := h.1 c4
    refine g_aload_n F dX5_first_27 0 rfl ?_
    refine g_iload_n F dX5_first_28 1 rfl ?_
    refine g_iconst (v := (0 : Int32)) F dX5_first_29 (by decide) ?_
    refine g_iconst (v := (0 : Int32)) F dX5_first_30 (by decide) ?_
    refine rX5_X5_runs F dX5_first_31 rfl h (fun s5 h => ?_)
    refine g_iconst (v := (0 : Int32)) F dX5_first_34 (by decide) ?_
    refine g_istore_n (lv' := [(3, .int (0 : Int32)), (0, .ref (a 0)), (1, .int l1), (2, .int l2)]) F dX5_first_35 rfl rfl ?_
    exact g_sub [1, 2, 3, 0] rfl (sX5_first_36 F R h)
  replace h := h.2 c4
  refine g_bipush (v := (-2 : Int32)) F dX5_first_24 (by decide) ?_
  exact g_iret F R rfl rfl dX5_first_26 ⟨_, _, rfl, rfl, h⟩
theorem plX5_dryBehind : kPlain yX5_dryBehind 1 = true := by decide +kernel
theorem rX5_X5_dryBehind {z : kZ} {cc : ByteArray} {nL : Nat} {rm : Room} {c n pc : Nat} {lv : List (Nat × Value)} {st : List Value} {a : Nat → Nat} {E : va_W} {σ : kS} {l1 : Int32} {Q : Int32 → kS → Prop} (F : kF z cc RX5 nL rm) (hd : decode cc pc = .ok (.invokevirtual 396, 3)) (hf : kFits rm 46 1069 0 0 2 c n st = true) (h : wX5_dryBehind l1 σ Q) (k : ∀ (v : Int32) (σ' : kS), Q v σ' → kV z (mW (zg z) a E σ') c n (pc + 3) lv (.int v :: st)) : kV z (mW (zg z) a E σ) c n pc lv (.int l1 :: .ref (a 0) :: st) := by
  exact g_callV F (av := [.int l1]) (ctX5_dryBehind _ _ _ a E h) (ci := 5) (q0 := 0) rfl rfl rfl wq1283 wq1285 wq104 wq114 wq1286 plX5_dryBehind hd hf (fun r ws' hq => by
    obtain ⟨v, σ', rfl, rfl, hq⟩ := hq
    exact k v σ' hq)
set_option maxRecDepth 20000 in
theorem sX5_where_58 {z : kZ} {a : Nat → Nat} {E : va_W}  {Q : Int32 → kS → Prop} {l1 : Int32} {l2 : Int32} {l3 : Int32} {l4 : Int32} {l5 : Int32} {l6 : Int32} {σ : kS} (F : kF z cX5_where RX5 8 { frames := 47, cells := 0, slots := 0, locals := 1090 }) (R : kR z (some .int) 0 0 (kPi (mW (zg z) a E) Q)) (h : wX5_where_58 Q l1 l2 l3 l4 l5 l6 σ) : kV z (mW (zg z) a E σ) 0 0 58 [(0, .ref (a 0)), (1, .int l1), (2, .int l2), (3, .int l3), (4, .int l4), (5, .int l5), (6, .int l6)] [] := by
  unfold wX5_where_58 at h
  refine h (fun σ l4 l5 l6 => kV z (mW (zg z) a E σ) 0 0 58 [(0, .ref (a 0)), (1, .int l1), (2, .int l2), (3, .int l3), (4, .int l4), (5, .int l5), (6, .int l6)] []) (fun σ l4 l5 l6 h => ?_)
  refine g_iload F dX5_where_58 6 rfl ?_
  refine g_bipush (v := (12 : Int32)) F dX5_where_60 (by decide) ?_
  refine g_icmp_ge F dX5_where_62 (tgt := 120) (by decide) (fun c8 => ?_) (fun c8 => ?_)
  · replace h := h.1 c8
    refine g_iload_n F dX5_where_120 3 rfl ?_
    refine g_if_ne F dX5_where_121 (tgt := 129) (by decide) (fun c9 => ?_) (fun c9 => ?_)
    · replace h := h.1 c9
      refine g_iload F dX5_where_129 5 rfl ?_
      exact g_iret F R rfl rfl dX5_where_131 ⟨_, _, rfl, rfl, h⟩
    replace h := h.2 c9
    refine g_iload F dX5_where_124 4 rfl ?_
    refine g_goto F dX5_where_126 (tgt := 131) (by decide) ?_
    exact g_iret F R rfl rfl dX5_where_131 ⟨_, _, rfl, rfl, h⟩
  replace h := h.2 c8
  refine g_aload_n F dX5_where_65 0 rfl ?_
  refine g_iload_n F dX5_where_66 1 rfl ?_
  refine g_bipush (v := (10 : Int32)) F dX5_where_67 (by decide) ?_
  refine g_idiv F dX5_where_69 (by decide) ?_
  refine g_iload_n F dX5_where_70 1 rfl ?_
  refine g_bipush (v := (10 : Int32)) F dX5_where_71 (by decide) ?_
  refine g_irem F dX5_where_73 (by decide) ?_
  refine g_iload F dX5_where_74 6 rfl ?_
  refine rX5_X5_comes F dX5_where_76 rfl h (fun s10 h => ?_)
  refine g_aload_n F dX5_where_79 0 rfl ?_
  refine g_iload_n F dX5_where_80 2 rfl ?_
  refine rX5_X5_dryBehind F dX5_where_81 rfl h (fun r12 s11 h => ?_)
  refine rX5_X5_bitsOf F dX5_where_84 rfl h (fun r13 h => ?_)
  refine g_istore (lv' := [(7, .int r13), (0, .ref (a 0)), (1, .int l1), (2, .int l2), (3, .int l3), (4, .int l4), (5, .int l5), (6, .int l6)]) F dX5_where_87 rfl rfl ?_
  refine g_aload_n F dX5_where_89 1 rfl ?_
  refine g_dup F dX5_where_90 rfl ?_
  refine rgX5_X5_many F dX5_where_91 ?_
  refine g_iconst (v := (1 : Int32)) F dX5_where_94 (by decide) ?_
  refine g_isub F dX5_where_95 ?_
  refine rpX5_X5_many F dX5_where_96 ?_
  refine g_name (wf := mW (zg z) a E) (fun s14 es14 => ?_)
  replace h := h s14 es14
  refine g_iload F dX5_where_99 0 rfl ?_
  refine g_iload F dX5_where_101 6 rfl ?_
  refine g_icmp_le F dX5_where_103 (tgt := 114) (by decide) (fun c15 => ?_) (fun c15 => ?_)
  · replace h := h.1 c15
    obtain ⟨x16, ex16⟩ : ∃ q : Int32, q = l6 + (1 : Int32) := ⟨_, rfl⟩
    replace h := h x16 ex16
    refine g_iinc (lv' := [(6, .int x16), (7, .int r13), (0, .ref (a 0)), (1, .int l1), (2, .int l2), (3, .int l3), (4, .int l4), (5, .int l5)]) (d := (1 : Int32)) F dX5_where_114 rfl 7 rfl (by decide) ex16.symm rfl ?_
    refine g_goto F dX5_where_117 (tgt := 58) (by decide) ?_
    exact (g_sub [2, 3, 4, 5, 6, 7, 0] rfl h)
  replace h := h.2 c15
  refine g_iload F dX5_where_106 7 rfl ?_
  refine g_istore (lv' := [(4, .int l6), (7, .int r13), (0, .ref (a 0)), (1, .int l1), (2, .int l2), (3, .int l3), (5, .int l5), (6, .int l6)]) F dX5_where_108 rfl rfl ?_
  refine g_iload F dX5_where_110 1 rfl ?_
  refine g_istore (lv' := [(5, .int r13), (4, .int l6), (7, .int r13), (0, .ref (a 0)), (1, .int l1), (2, .int l2), (3, .int l3), (6, .int l6)]) F dX5_where_112 rfl rfl ?_
  obtain ⟨x17, ex17⟩ : ∃ q : Int32, q = l6 + (1 : Int32) := ⟨_, rfl⟩
  replace h := h x17 ex17
  refine g_iinc (lv' := [(6, .int x17), (5, .int r13), (4, .int l6), (7, .int r13), (0, .ref (a 0)), (1, .int l1), (2, .int l2), (3, .int l3)]) (d := (1 : Int32)) F dX5_where_114 rfl 7 rfl (by decide) ex17.symm rfl ?_
  refine g_goto F dX5_where_117 (tgt := 58) (by decide) ?_
  exact (g_sub [4, 5, 6, 7, 2, 1, 0] rfl h)
set_option maxRecDepth 20000 in
theorem ctX5_where (l : Launch) (g : kG) (A : Nat → Prop) (a : Nat → Nat) (E : va_W) {l1 : Int32} {l2 : Int32} {l3 : Int32} {σ : kS} {Q : Int32 → kS → Prop} (h : wX5_where l1 l2 l3 σ Q) : kCt l yX5_where cX5_where 8 (some .int) 47 1090 0 0 g A [.ref (a 0), .int l1, .int l2, .int l3] (mW g a E σ) (kPi (mW g a E) Q) := by
  refine kCt.of (lv0 := [(0, .ref (a 0)), (1, .int l1), (2, .int l2), (3, .int l3)]) (by decide +kernel) (Nat.le_of_ble_eq_true rfl) rfl (fun z hl hg hA F R => ?_)
  subst hl hg hA
  have F : kF z cX5_where RX5 8 { frames := 47, cells := 0, slots := 0, locals := 1090 } := F
  unfold wX5_where at h
  refine g_iload_n F dX5_where_0 1 rfl ?_
  refine g_i2l F dX5_where_1 ?_
  refine g_lconst (v := (0 : Int64)) F dX5_where_2 (by decide) ?_
  refine g_ldc2 (v := (59 : Int64)) F dX5_where_3 wq1282 ?_
  refine rX5_X5_in F dX5_where_6 rfl h (fun r1 h => ?_)
  refine g_if_eq F dX5_where_9 (tgt := 34) (by decide) (fun c2 => ?_) (fun c2 => ?_)
  · replace h := h.1 c2
    refine g_bipush (v := (-2 : Int32)) F dX5_where_34 (by decide) ?_
    exact g_iret F R rfl rfl dX5_where_36 ⟨_, _, rfl, rfl, h⟩
  replace h := h.2 c2
  refine g_iload_n F dX5_where_12 2 rfl ?_
  refine g_i2l F dX5_where_13 ?_
  refine g_lconst (v := (0 : Int64)) F dX5_where_14 (by decide) ?_
  refine g_ldc2 (v := (30 : Int64)) F dX5_where_15 wq1259 ?_
  refine rX5_X5_in F dX5_where_18 rfl h (fun r3 h => ?_)
  refine g_if_eq F dX5_where_21 (tgt := 34) (by decide) (fun c4 => ?_) (fun c4 => ?_)
  · replace h := h.1 c4
    refine g_bipush (v := (-2 : Int32)) F dX5_where_34 (by decide) ?_
    exact g_iret F R rfl rfl dX5_where_36 ⟨_, _, rfl, rfl, h⟩
  replace h := h.2 c4
  refine g_iload_n F dX5_where_24 3 rfl ?_
  refine g_i2l F dX5_where_25 ?_
  refine g_lconst (v := (0 : Int64)) F dX5_where_26 (by decide) ?_
  refine g_lconst (v := (1 : Int64)) F dX5_where_27 (by decide) ?_
  refine rX5_X5_in F dX5_where_28 rfl h (fun r5 h => ?_)
  refine g_if_ne F dX5_where_31 (tgt := 37) (by decide) (fun c6 => ?_) (fun c6 => ?_)
  · replace h := h.1 c6
    refine g_aload_n F dX5_where_37 0 rfl ?_
    refine rgX5_X5_many F dX5_where_38 ?_
    refine g_bipush (v := (6 : Int32)) F dX5_where_41 (by decide) ?_
    refine g_icmp_ne F dX5_where_43 (tgt := 49) (by decide) (fun c7 => ?_) (fun c7 => ?_)
    · replace h := h.1 c7
      refine g_iconst (v := (-1 : Int32)) F dX5_where_49 (by decide) ?_
      refine g_istore (lv' := [(4, .int (-1 : Int32)), (0, .ref (a 0)), (1, .int l1), (2, .int l2), (3, .int l3)]) F dX5_where_50 rfl rfl ?_
      refine g_iconst (v := (-1 : Int32)) F dX5_where_52 (by decide) ?_
      refine g_istore (lv' := [(5, .int (-1 : Int32)), (4, .int (-1 : Int32)), (0, .ref (a 0)), (1, .int l1), (2, .int l2), (3, .int l3)]) F dX5_where_53 rfl rfl ?_
      refine g_iconst (v := (0 : Int32)) F dX5_where_55 (by decide) ?_
      refine g_istore (lv' := [(6, .int (0 : Int32)), (5, .int (-1 : Int32)), (4, .int (-1 : Int32)), (0, .ref (a 0)), (1, .int l1), (2, .int l2), (3, .int l3)]) F dX5_where_56 rfl rfl ?_
      exact g_sub [3, 4, 5, 6, 2, 1, 0] rfl (sX5_where_58 F R h)
    replace h := h.2 c7
    refine g_bipush (v := (-4 : Int32)) F dX5_where_46 (by decide) ?_
    exact g_iret F R rfl rfl dX5_where_48 ⟨_, _, rfl, rfl, h⟩
  replace h := h.2 c6
  refine g_bipush (v := (-2 : Int32)) F dX5_where_34 (by decide) ?_
  exact g_iret F R rfl rfl dX5_where_36 ⟨_, _, rfl, rfl, h⟩
