theorem plX5_added1 : kPlain yX5_added1 0 = true := by decide +kernel
theorem rX5_X5_added1 {z : kZ} {cc : ByteArray} {nL : Nat} {rm : Room} {c n pc : Nat} {lv : List (Nat × Value)} {st : List Value} {a : Nat → Nat} {E : va_W} {σ : kS} {Q : Int32 → kS → Prop} (F : kF z cc RX5 nL rm) (hd : decode cc pc = .ok (.invokevirtual 297, 3)) (hf : kFits rm 30 701 0 0 4 c n st = true) (h : wX5_added1 σ Q) (k : ∀ (v : Int32) (σ' : kS), Q v σ' → kV z (mW (zg z) a E σ') c n (pc + 3) lv (.int v :: st)) : kV z (mW (zg z) a E σ) c n pc lv (.ref (a 0) :: st) := by
  exact g_callV F (av := []) (ctX5_added1 _ _ _ a E h) (ci := 5) (q0 := 0) rfl rfl rfl wq1143 wq1145 wq82 wq114 wq1146 plX5_added1 hd hf (fun r ws' hq => by
    obtain ⟨v, σ', rfl, rfl, hq⟩ := hq
    exact k v σ' hq)
set_option maxRecDepth 20000 in
theorem sX5_not1_93 {z : kZ} {a : Nat → Nat} {E : va_W}  {Q : Int32 → kS → Prop} {l1 : Int32} {ks0 : Int32} {σ : kS} (F : kF z cX5_not1 RX5 4 { frames := 31, cells := 0, slots := 0, locals := 724 }) (R : kR z (some .int) 0 0 (kPi (mW (zg z) a E) Q)) (h : wX5_not1_93 Q l1 ks0 σ) : kV z (mW (zg z) a E σ) 0 0 93 [(0, .ref (a 0)), (1, .int l1)] [.int ks0] := by
  unfold wX5_not1_93 at h
  refine g_istore_n (lv' := [(2, .int ks0), (0, .ref (a 0)), (1, .int l1)]) F dX5_not1_93 rfl rfl ?_
  refine g_aload_n F dX5_not1_94 1 rfl ?_
  refine rX5_X5_next F dX5_not1_95 rfl h (fun s20 h => ?_)
  refine g_aload_n F dX5_not1_98 1 rfl ?_
  refine rX5_X5_added1 F dX5_not1_99 rfl h (fun r22 s21 h => ?_)
  refine g_istore_n (lv' := [(3, .int r22), (2, .int ks0), (0, .ref (a 0)), (1, .int l1)]) F dX5_not1_102 rfl rfl ?_
  refine g_iload_n F dX5_not1_103 1 rfl ?_
  refine g_if_eq F dX5_not1_104 (tgt := 115) (by decide) (fun c23 => ?_) (fun c23 => ?_)
  · replace h := h.1 c23
    refine g_iload_n F dX5_not1_115 3 rfl ?_
    refine g_iload_n F dX5_not1_116 0 rfl ?_
    refine g_icmp_ne F dX5_not1_117 (tgt := 124) (by decide) (fun c24 => ?_) (fun c24 => ?_)
    · replace h := h.1 c24
      refine g_iconst (v := (0 : Int32)) F dX5_not1_124 (by decide) ?_
      exact g_iret F R rfl rfl dX5_not1_125 ⟨_, _, rfl, rfl, h⟩
    replace h := h.2 c24
    refine g_iconst (v := (1 : Int32)) F dX5_not1_120 (by decide) ?_
    refine g_goto F dX5_not1_121 (tgt := 125) (by decide) ?_
    exact g_iret F R rfl rfl dX5_not1_125 ⟨_, _, rfl, rfl, h⟩
  replace h := h.2 c23
  refine g_iload_n F dX5_not1_107 3 rfl ?_
  refine g_iload_n F dX5_not1_108 0 rfl ?_
  refine g_icmp_ge F dX5_not1_109 (tgt := 124) (by decide) (fun c25 => ?_) (fun c25 => ?_)
  · replace h := h.1 c25
    refine g_iconst (v := (0 : Int32)) F dX5_not1_124 (by decide) ?_
    exact g_iret F R rfl rfl dX5_not1_125 ⟨_, _, rfl, rfl, h⟩
  replace h := h.2 c25
  refine g_goto F dX5_not1_112 (tgt := 120) (by decide) ?_
  refine g_iconst (v := (1 : Int32)) F dX5_not1_120 (by decide) ?_
  refine g_goto F dX5_not1_121 (tgt := 125) (by decide) ?_
  exact g_iret F R rfl rfl dX5_not1_125 ⟨_, _, rfl, rfl, h⟩
set_option maxRecDepth 20000 in
theorem sX5_not1_77 {z : kZ} {a : Nat → Nat} {E : va_W}  {Q : Int32 → kS → Prop} {l1 : Int32} {σ : kS} (F : kF z cX5_not1 RX5 4 { frames := 31, cells := 0, slots := 0, locals := 724 }) (R : kR z (some .int) 0 0 (kPi (mW (zg z) a E) Q)) (h : wX5_not1_77 Q l1 σ) : kV z (mW (zg z) a E σ) 0 0 77 [(0, .ref (a 0)), (1, .int l1)] [] := by
  unfold wX5_not1_77 at h
  refine g_aload_n F dX5_not1_77 0 rfl ?_
  refine rgX5_X5_tokenWorth F dX5_not1_78 ?_
  refine g_ldc2 (v := (60 : Int64)) F dX5_not1_81 wq1082 ?_
  refine g_lcmp F dX5_not1_84 ?_
  refine g_if_ne F dX5_not1_85 (tgt := 92) (by decide) (fun c19 => ?_) (fun c19 => ?_)
  · replace h := h.1 c19
    refine g_iconst (v := (0 : Int32)) F dX5_not1_92 (by decide) ?_
    exact (sX5_not1_93 F R h)
  replace h := h.2 c19
  refine g_iconst (v := (1 : Int32)) F dX5_not1_88 (by decide) ?_
  refine g_goto F dX5_not1_89 (tgt := 93) (by decide) ?_
  exact (sX5_not1_93 F R h)
set_option maxRecDepth 20000 in
theorem ctX5_not1 (l : Launch) (g : kG) (A : Nat → Prop) (a : Nat → Nat) (E : va_W) {σ : kS} {Q : Int32 → kS → Prop} (h : wX5_not1 σ Q) : kCt l yX5_not1 cX5_not1 4 (some .int) 31 724 0 0 g A [.ref (a 0)] (mW g a E σ) (kPi (mW g a E) Q) := by
  refine kCt.of (lv0 := [(0, .ref (a 0))]) (by decide +kernel) (Nat.le_of_ble_eq_true rfl) rfl (fun z hl hg hA F R => ?_)
  subst hl hg hA
  have F : kF z cX5_not1 RX5 4 { frames := 31, cells := 0, slots := 0, locals := 724 } := F
  unfold wX5_not1 at h
  refine g_aload_n F dX5_not1_0 0 rfl ?_
  refine g_bipush (v := (110 : Int32)) F dX5_not1_1 (by decide) ?_
  refine g_bipush (v := (111 : Int32)) F dX5_not1_3 (by decide) ?_
  refine g_bipush (v := (116 : Int32)) F dX5_not1_5 (by decide) ?_
  refine g_iconst (v := (0 : Int32)) F dX5_not1_7 (by decide) ?_
  refine g_iconst (v := (0 : Int32)) F dX5_not1_8 (by decide) ?_
  refine g_iconst (v := (0 : Int32)) F dX5_not1_9 (by decide) ?_
  refine g_iconst (v := (0 : Int32)) F dX5_not1_10 (by decide) ?_
  refine g_iconst (v := (0 : Int32)) F dX5_not1_11 (by decide) ?_
  refine rX5_X5_isWord F dX5_not1_12 rfl h (fun r2 s1 h => ?_)
  refine g_if_eq F dX5_not1_15 (tgt := 52) (by decide) (fun c3 => ?_) (fun c3 => ?_)
  · replace h := h.1 c3
    refine g_aload_n F dX5_not1_52 0 rfl ?_
    refine rX5_X5_added1 F dX5_not1_53 rfl h (fun r5 s4 h => ?_)
    refine g_istore_n (lv' := [(1, .int r5), (0, .ref (a 0))]) F dX5_not1_56 rfl rfl ?_
    refine g_aload_n F dX5_not1_57 1 rfl ?_
    refine g_bipush (v := (60 : Int32)) F dX5_not1_58 (by decide) ?_
    refine rX5_X5_isSign F dX5_not1_60 rfl h (fun r7 s6 h => ?_)
    refine g_if_ne F dX5_not1_63 (tgt := 77) (by decide) (fun c8 => ?_) (fun c8 => ?_)
    · replace h := h.1 c8
      exact g_sub [1, 0] rfl (sX5_not1_77 F R h)
    replace h := h.2 c8
    refine g_aload_n F dX5_not1_66 1 rfl ?_
    refine g_bipush (v := (61 : Int32)) F dX5_not1_67 (by decide) ?_
    refine rX5_X5_isSign F dX5_not1_69 rfl h (fun r10 s9 h => ?_)
    refine g_if_ne F dX5_not1_72 (tgt := 77) (by decide) (fun c11 => ?_) (fun c11 => ?_)
    · replace h := h.1 c11
      exact g_sub [1, 0] rfl (sX5_not1_77 F R h)
    replace h := h.2 c11
    refine g_iload_n F dX5_not1_75 0 rfl ?_
    exact g_iret F R rfl rfl dX5_not1_76 ⟨_, _, rfl, rfl, h⟩
  replace h := h.2 c3
  refine g_aload_n F dX5_not1_18 0 rfl ?_
  refine rX5_X5_opens F dX5_not1_19 rfl h (fun r13 s12 h => ?_)
  refine g_if_ne F dX5_not1_22 (tgt := 27) (by decide) (fun c14 => ?_) (fun c14 => ?_)
  · replace h := h.1 c14
    refine g_aload_n F dX5_not1_27 0 rfl ?_
    refine rX5_X5_not2 F dX5_not1_28 rfl h (fun r16 s15 h => ?_)
    refine g_istore_n (lv' := [(1, .int r16), (0, .ref (a 0))]) F dX5_not1_31 rfl rfl ?_
    refine g_aload_n F dX5_not1_32 1 rfl ?_
    refine g_dup F dX5_not1_33 rfl ?_
    refine rgX5_X5_open F dX5_not1_34 ?_
    refine g_iconst (v := (1 : Int32)) F dX5_not1_37 (by decide) ?_
    refine g_isub F dX5_not1_38 ?_
    refine rpX5_X5_open F dX5_not1_39 ?_
    refine g_name (wf := mW (zg z) a E) (fun s17 es17 => ?_)
    replace h := h s17 es17
    refine g_iload_n F dX5_not1_42 0 rfl ?_
    refine g_if_ne F dX5_not1_43 (tgt := 50) (by decide) (fun c18 => ?_) (fun c18 => ?_)
    · replace h := h.1 c18
      refine g_iconst (v := (0 : Int32)) F dX5_not1_50 (by decide) ?_
      exact g_iret F R rfl rfl dX5_not1_51 ⟨_, _, rfl, rfl, h⟩
    replace h := h.2 c18
    refine g_iconst (v := (1 : Int32)) F dX5_not1_46 (by decide) ?_
    refine g_goto F dX5_not1_47 (tgt := 51) (by decide) ?_
    exact g_iret F R rfl rfl dX5_not1_51 ⟨_, _, rfl, rfl, h⟩
  replace h := h.2 c14
  refine g_iconst (v := (0 : Int32)) F dX5_not1_25 (by decide) ?_
  exact g_iret F R rfl rfl dX5_not1_26 ⟨_, _, rfl, rfl, h⟩
theorem plX5_not1 : kPlain yX5_not1 0 = true := by decide +kernel
theorem rX5_X5_not1 {z : kZ} {cc : ByteArray} {nL : Nat} {rm : Room} {c n pc : Nat} {lv : List (Nat × Value)} {st : List Value} {a : Nat → Nat} {E : va_W} {σ : kS} {Q : Int32 → kS → Prop} (F : kF z cc RX5 nL rm) (hd : decode cc pc = .ok (.invokevirtual 300, 3)) (hf : kFits rm 31 724 0 0 4 c n st = true) (h : wX5_not1 σ Q) (k : ∀ (v : Int32) (σ' : kS), Q v σ' → kV z (mW (zg z) a E σ') c n (pc + 3) lv (.int v :: st)) : kV z (mW (zg z) a E σ) c n pc lv (.ref (a 0) :: st) := by
  exact g_callV F (av := []) (ctX5_not1 _ _ _ a E h) (ci := 5) (q0 := 0) rfl rfl rfl wq1041 wq1043 wq57 wq114 wq1044 plX5_not1 hd hf (fun r ws' hq => by
    obtain ⟨v, σ', rfl, rfl, hq⟩ := hq
    exact k v σ' hq)
set_option maxRecDepth 20000 in
theorem sX5_both1_5 {z : kZ} {a : Nat → Nat} {E : va_W}  {Q : Int32 → kS → Prop} {l1 : Int32} {σ : kS} (F : kF z cX5_both1 RX5 3 { frames := 32, cells := 0, slots := 0, locals := 747 }) (R : kR z (some .int) 0 0 (kPi (mW (zg z) a E) Q)) (h : wX5_both1_5 Q l1 σ) : kV z (mW (zg z) a E σ) 0 0 5 [(0, .ref (a 0)), (1, .int l1)] [] := by
  unfold wX5_both1_5 at h
  refine h (fun σ l1 => kV z (mW (zg z) a E σ) 0 0 5 [(0, .ref (a 0)), (1, .int l1)] []) (fun σ l1 h => ?_)
  refine g_aload_n F dX5_both1_5 0 rfl ?_
  refine g_bipush (v := (97 : Int32)) F dX5_both1_6 (by decide) ?_
  refine g_bipush (v := (110 : Int32)) F dX5_both1_8 (by decide) ?_
  refine g_bipush (v := (100 : Int32)) F dX5_both1_10 (by decide) ?_
  refine g_iconst (v := (0 : Int32)) F dX5_both1_12 (by decide) ?_
  refine g_iconst (v := (0 : Int32)) F dX5_both1_13 (by decide) ?_
  refine g_iconst (v := (0 : Int32)) F dX5_both1_14 (by decide) ?_
  refine g_iconst (v := (0 : Int32)) F dX5_both1_15 (by decide) ?_
  refine g_iconst (v := (0 : Int32)) F dX5_both1_16 (by decide) ?_
  refine rX5_X5_isWord F dX5_both1_17 rfl h (fun r4 s3 h => ?_)
  refine g_if_eq F dX5_both1_20 (tgt := 49) (by decide) (fun c5 => ?_) (fun c5 => ?_)
  · replace h := h.1 c5
    refine g_iload_n F dX5_both1_49 1 rfl ?_
    exact g_iret F R rfl rfl dX5_both1_50 ⟨_, _, rfl, rfl, h⟩
  replace h := h.2 c5
  refine g_aload_n F dX5_both1_23 0 rfl ?_
  refine rX5_X5_next F dX5_both1_24 rfl h (fun s6 h => ?_)
  refine g_aload_n F dX5_both1_27 0 rfl ?_
  refine rX5_X5_not1 F dX5_both1_28 rfl h (fun r8 s7 h => ?_)
  refine g_istore_n (lv' := [(2, .int r8), (0, .ref (a 0)), (1, .int l1)]) F dX5_both1_31 rfl rfl ?_
  refine g_iload_n F dX5_both1_32 2 rfl ?_
  refine g_if_eq F dX5_both1_33 (tgt := 44) (by decide) (fun c9 => ?_) (fun c9 => ?_)
  · replace h := h.1 c9
    refine g_iconst (v := (0 : Int32)) F dX5_both1_44 (by decide) ?_
    refine g_istore_n (lv' := [(1, .int (0 : Int32)), (2, .int r8), (0, .ref (a 0))]) F dX5_both1_45 rfl rfl ?_
    refine g_goto F dX5_both1_46 (tgt := 5) (by decide) ?_
    exact (g_sub [2, 0] rfl h)
  replace h := h.2 c9
  refine g_iload_n F dX5_both1_36 0 rfl ?_
  refine g_if_eq F dX5_both1_37 (tgt := 44) (by decide) (fun c10 => ?_) (fun c10 => ?_)
  · replace h := h.1 c10
    refine g_iconst (v := (0 : Int32)) F dX5_both1_44 (by decide) ?_
    refine g_istore_n (lv' := [(1, .int (0 : Int32)), (2, .int r8), (0, .ref (a 0))]) F dX5_both1_45 rfl rfl ?_
    refine g_goto F dX5_both1_46 (tgt := 5) (by decide) ?_
    exact (g_sub [2, 0] rfl h)
  replace h := h.2 c10
  refine g_iconst (v := (1 : Int32)) F dX5_both1_40 (by decide) ?_
  refine g_goto F dX5_both1_41 (tgt := 45) (by decide) ?_
  refine g_istore_n (lv' := [(1, .int (1 : Int32)), (2, .int r8), (0, .ref (a 0))]) F dX5_both1_45 rfl rfl ?_
  refine g_goto F dX5_both1_46 (tgt := 5) (by decide) ?_
  exact (g_sub [2, 0] rfl h)
set_option maxRecDepth 20000 in
theorem ctX5_both1 (l : Launch) (g : kG) (A : Nat → Prop) (a : Nat → Nat) (E : va_W) {σ : kS} {Q : Int32 → kS → Prop} (h : wX5_both1 σ Q) : kCt l yX5_both1 cX5_both1 3 (some .int) 32 747 0 0 g A [.ref (a 0)] (mW g a E σ) (kPi (mW g a E) Q) := by
  refine kCt.of (lv0 := [(0, .ref (a 0))]) (by decide +kernel) (Nat.le_of_ble_eq_true rfl) rfl (fun z hl hg hA F R => ?_)
  subst hl hg hA
  have F : kF z cX5_both1 RX5 3 { frames := 32, cells := 0, slots := 0, locals := 747 } := F
  unfold wX5_both1 at h
  refine g_aload_n F dX5_both1_0 0 rfl ?_
  refine rX5_X5_not1 F dX5_both1_1 rfl h (fun r2 s1 h => ?_)
  refine g_istore_n (lv' := [(1, .int r2), (0, .ref (a 0))]) F dX5_both1_4 rfl rfl ?_
  exact g_sub [1, 0] rfl (sX5_both1_5 F R h)
theorem plX5_both1 : kPlain yX5_both1 0 = true := by decide +kernel
theorem rX5_X5_both1 {z : kZ} {cc : ByteArray} {nL : Nat} {rm : Room} {c n pc : Nat} {lv : List (Nat × Value)} {st : List Value} {a : Nat → Nat} {E : va_W} {σ : kS} {Q : Int32 → kS → Prop} (F : kF z cc RX5 nL rm) (hd : decode cc pc = .ok (.invokevirtual 303, 3)) (hf : kFits rm 32 747 0 0 3 c n st = true) (h : wX5_both1 σ Q) (k : ∀ (v : Int32) (σ' : kS), Q v σ' → kV z (mW (zg z) a E σ') c n (pc + 3) lv (.int v :: st)) : kV z (mW (zg z) a E σ) c n pc lv (.ref (a 0) :: st) := by
  exact g_callV F (av := []) (ctX5_both1 _ _ _ a E h) (ci := 5) (q0 := 0) rfl rfl rfl wq1179 wq1181 wq91 wq114 wq1182 plX5_both1 hd hf (fun r ws' hq => by
    obtain ⟨v, σ', rfl, rfl, hq⟩ := hq
    exact k v σ' hq)
set_option maxRecDepth 20000 in
theorem sX5_either1_5 {z : kZ} {a : Nat → Nat} {E : va_W}  {Q : Int32 → kS → Prop} {l1 : Int32} {σ : kS} (F : kF z cX5_either1 RX5 3 { frames := 33, cells := 0, slots := 0, locals := 769 }) (R : kR z (some .int) 0 0 (kPi (mW (zg z) a E) Q)) (h : wX5_either1_5 Q l1 σ) : kV z (mW (zg z) a E σ) 0 0 5 [(0, .ref (a 0)), (1, .int l1)] [] := by
  unfold wX5_either1_5 at h
  refine h (fun σ l1 => kV z (mW (zg z) a E σ) 0 0 5 [(0, .ref (a 0)), (1, .int l1)] []) (fun σ l1 h => ?_)
  refine g_aload_n F dX5_either1_5 0 rfl ?_
  refine g_bipush (v := (111 : Int32)) F dX5_either1_6 (by decide) ?_
  refine g_bipush (v := (114 : Int32)) F dX5_either1_8 (by decide) ?_
  refine g_iconst (v := (0 : Int32)) F dX5_either1_10 (by decide) ?_
  refine g_iconst (v := (0 : Int32)) F dX5_either1_11 (by decide) ?_
  refine g_iconst (v := (0 : Int32)) F dX5_either1_12 (by decide) ?_
  refine g_iconst (v := (0 : Int32)) F dX5_either1_13 (by decide) ?_
  refine g_iconst (v := (0 : Int32)) F dX5_either1_14 (by decide) ?_
  refine g_iconst (v := (0 : Int32)) F dX5_either1_15 (by decide) ?_
  refine rX5_X5_isWord F dX5_either1_16 rfl h (fun r4 s3 h => ?_)
  refine g_if_eq F dX5_either1_19 (tgt := 48) (by decide) (fun c5 => ?_) (fun c5 => ?_)
  · replace h := h.1 c5
    refine g_iload_n F dX5_either1_48 1 rfl ?_
    exact g_iret F R rfl rfl dX5_either1_49 ⟨_, _, rfl, rfl, h⟩
  replace h := h.2 c5
  refine g_aload_n F dX5_either1_22 0 rfl ?_
  refine rX5_X5_next F dX5_either1_23 rfl h (fun s6 h => ?_)
  refine g_aload_n F dX5_either1_26 0 rfl ?_
  refine rX5_X5_both1 F dX5_either1_27 rfl h (fun r8 s7 h => ?_)
  refine g_istore_n (lv' := [(2, .int r8), (0, .ref (a 0)), (1, .int l1)]) F dX5_either1_30 rfl rfl ?_
  refine g_iload_n F dX5_either1_31 2 rfl ?_
  refine g_if_ne F dX5_either1_32 (tgt := 39) (by decide) (fun c9 => ?_) (fun c9 => ?_)
  · replace h := h.1 c9
    refine g_iconst (v := (1 : Int32)) F dX5_either1_39 (by decide) ?_
    refine g_goto F dX5_either1_40 (tgt := 44) (by decide) ?_
    refine g_istore_n (lv' := [(1, .int (1 : Int32)), (2, .int r8), (0, .ref (a 0))]) F dX5_either1_44 rfl rfl ?_
    refine g_goto F dX5_either1_45 (tgt := 5) (by decide) ?_
    exact (g_sub [2, 0] rfl h)
  replace h := h.2 c9
  refine g_iload_n F dX5_either1_35 0 rfl ?_
  refine g_if_eq F dX5_either1_36 (tgt := 43) (by decide) (fun c10 => ?_) (fun c10 => ?_)
  · replace h := h.1 c10
    refine g_iconst (v := (0 : Int32)) F dX5_either1_43 (by decide) ?_
    refine g_istore_n (lv' := [(1, .int (0 : Int32)), (2, .int r8), (0, .ref (a 0))]) F dX5_either1_44 rfl rfl ?_
    refine g_goto F dX5_either1_45 (tgt := 5) (by decide) ?_
    exact (g_sub [2, 0] rfl h)
  replace h := h.2 c10
  refine g_iconst (v := (1 : Int32)) F dX5_either1_39 (by decide) ?_
  refine g_goto F dX5_either1_40 (tgt := 44) (by decide) ?_
  refine g_istore_n (lv' := [(1, .int (1 : Int32)), (2, .int r8), (0, .ref (a 0))]) F dX5_either1_44 rfl rfl ?_
  refine g_goto F dX5_either1_45 (tgt := 5) (by decide) ?_
  exact (g_sub [2, 0] rfl h)
set_option maxRecDepth 20000 in
theorem ctX5_either1 (l : Launch) (g : kG) (A : Nat → Prop) (a : Nat → Nat) (E : va_W) {σ : kS} {Q : Int32 → kS → Prop} (h : wX5_either1 σ Q) : kCt l yX5_either1 cX5_either1 3 (some .int) 33 769 0 0 g A [.ref (a 0)] (mW g a E σ) (kPi (mW g a E) Q) := by
  refine kCt.of (lv0 := [(0, .ref (a 0))]) (by decide +kernel) (Nat.le_of_ble_eq_true rfl) rfl (fun z hl hg hA F R => ?_)
  subst hl hg hA
  have F : kF z cX5_either1 RX5 3 { frames := 33, cells := 0, slots := 0, locals := 769 } := F
  unfold wX5_either1 at h
  refine g_aload_n F dX5_either1_0 0 rfl ?_
  refine rX5_X5_both1 F dX5_either1_1 rfl h (fun r2 s1 h => ?_)
  refine g_istore_n (lv' := [(1, .int r2), (0, .ref (a 0))]) F dX5_either1_4 rfl rfl ?_
  exact g_sub [1, 0] rfl (sX5_either1_5 F R h)
theorem plX5_either1 : kPlain yX5_either1 0 = true := by decide +kernel
theorem rX5_X5_either1 {z : kZ} {cc : ByteArray} {nL : Nat} {rm : Room} {c n pc : Nat} {lv : List (Nat × Value)} {st : List Value} {a : Nat → Nat} {E : va_W} {σ : kS} {Q : Int32 → kS → Prop} (F : kF z cc RX5 nL rm) (hd : decode cc pc = .ok (.invokevirtual 306, 3)) (hf : kFits rm 33 769 0 0 3 c n st = true) (h : wX5_either1 σ Q) (k : ∀ (v : Int32) (σ' : kS), Q v σ' → kV z (mW (zg z) a E σ') c n (pc + 3) lv (.int v :: st)) : kV z (mW (zg z) a E σ) c n pc lv (.ref (a 0) :: st) := by
  exact g_callV F (av := []) (ctX5_either1 _ _ _ a E h) (ci := 5) (q0 := 0) rfl rfl rfl wq1175 wq1177 wq90 wq114 wq1178 plX5_either1 hd hf (fun r ws' hq => by
    obtain ⟨v, σ', rfl, rfl, hq⟩ := hq
    exact k v σ' hq)
set_option maxRecDepth 20000 in
theorem sX5_atom0_157 {z : kZ} {a : Nat → Nat} {E : va_W}  {Q : Int32 → kS → Prop} {l1 : Int32} {σ : kS} (F : kF z cX5_atom0 RX5 2 { frames := 34, cells := 0, slots := 0, locals := 791 }) (R : kR z (some .int) 0 0 (kPi (mW (zg z) a E) Q)) (h : wX5_atom0_157 Q l1 σ) : kV z (mW (zg z) a E σ) 0 0 157 [(0, .ref (a 0)), (1, .int l1)] [] := by
  unfold wX5_atom0_157 at h
  refine g_aload_n F dX5_atom0_157 0 rfl ?_
  refine rX5_X5_fail F dX5_atom0_158 rfl h (fun s36 h => ?_)
  refine g_iload_n F dX5_atom0_161 1 rfl ?_
  exact g_iret F R rfl rfl dX5_atom0_162 ⟨_, _, rfl, rfl, h⟩
set_option maxRecDepth 20000 in
theorem sX5_atom0_123 {z : kZ} {a : Nat → Nat} {E : va_W}  {Q : Int32 → kS → Prop} {l1 : Int32} {σ : kS} (F : kF z cX5_atom0 RX5 2 { frames := 34, cells := 0, slots := 0, locals := 791 }) (R : kR z (some .int) 0 0 (kPi (mW (zg z) a E) Q)) (h : wX5_atom0_123 Q l1 σ) : kV z (mW (zg z) a E σ) 0 0 123 [(0, .ref (a 0)), (1, .int l1)] [] := by
  unfold wX5_atom0_123 at h
  refine g_aload_n F dX5_atom0_123 0 rfl ?_
  refine rgX5_X5_bad F dX5_atom0_124 ?_
  refine g_if_ne F dX5_atom0_127 (tgt := 157) (by decide) (fun c27 => ?_) (fun c27 => ?_)
  · replace h := h.1 c27
    exact (sX5_atom0_157 F R h)
  replace h := h.2 c27
  refine g_aload_n F dX5_atom0_130 0 rfl ?_
  refine rgX5_X5_token F dX5_atom0_131 ?_
  refine g_iconst (v := (1 : Int32)) F dX5_atom0_134 (by decide) ?_
  refine g_icmp_ne F dX5_atom0_135 (tgt := 157) (by decide) (fun c28 => ?_) (fun c28 => ?_)
  · replace h := h.1 c28
    exact (sX5_atom0_157 F R h)
  replace h := h.2 c28
  refine g_aload_n F dX5_atom0_138 0 rfl ?_
  refine rX5_X5_name F dX5_atom0_139 rfl h (fun r30 s29 h => ?_)
  refine g_istore_n (lv' := [(1, .int r30), (0, .ref (a 0))]) F dX5_atom0_142 rfl rfl ?_
  refine g_aload_n F dX5_atom0_143 1 rfl ?_
  refine rgX5_X5_bad F dX5_atom0_144 ?_
  refine g_if_ne F dX5_atom0_147 (tgt := 161) (by decide) (fun c31 => ?_) (fun c31 => ?_)
  · replace h := h.1 c31
    refine g_iload_n F dX5_atom0_161 0 rfl ?_
    exact g_iret F R rfl rfl dX5_atom0_162 ⟨_, _, rfl, rfl, h⟩
  replace h := h.2 c31
  refine g_aload_n F dX5_atom0_150 1 rfl ?_
  refine rX5_X5_next F dX5_atom0_151 rfl h (fun s32 h => ?_)
  refine g_goto F dX5_atom0_154 (tgt := 161) (by decide) ?_
  refine g_iload_n F dX5_atom0_161 0 rfl ?_
  exact g_iret F R rfl rfl dX5_atom0_162 ⟨_, _, rfl, rfl, h⟩
set_option maxRecDepth 20000 in
theorem sX5_atom0_71 {z : kZ} {a : Nat → Nat} {E : va_W}  {Q : Int32 → kS → Prop} {l1 : Int32} {σ : kS} (F : kF z cX5_atom0 RX5 2 { frames := 34, cells := 0, slots := 0, locals := 791 }) (R : kR z (some .int) 0 0 (kPi (mW (zg z) a E) Q)) (h : wX5_atom0_71 Q l1 σ) : kV z (mW (zg z) a E σ) 0 0 71 [(0, .ref (a 0)), (1, .int l1)] [] := by
  unfold wX5_atom0_71 at h
  refine g_aload_n F dX5_atom0_71 0 rfl ?_
  refine g_dup F dX5_atom0_72 rfl ?_
  refine rgX5_X5_open F dX5_atom0_73 ?_
  refine g_iconst (v := (1 : Int32)) F dX5_atom0_76 (by decide) ?_
  refine g_isub F dX5_atom0_77 ?_
  refine rpX5_X5_open F dX5_atom0_78 ?_
  refine g_name (wf := mW (zg z) a E) (fun s33 es33 => ?_)
  replace h := h s33 es33
  refine g_aload_n F dX5_atom0_81 0 rfl ?_
  refine rgX5_X5_bad F dX5_atom0_82 ?_
  refine g_if_ne F dX5_atom0_85 (tgt := 161) (by decide) (fun c34 => ?_) (fun c34 => ?_)
  · replace h := h.1 c34
    refine g_iload_n F dX5_atom0_161 1 rfl ?_
    exact g_iret F R rfl rfl dX5_atom0_162 ⟨_, _, rfl, rfl, h⟩
  replace h := h.2 c34
  refine g_aload_n F dX5_atom0_88 0 rfl ?_
  refine rX5_X5_next F dX5_atom0_89 rfl h (fun s35 h => ?_)
  refine g_goto F dX5_atom0_92 (tgt := 161) (by decide) ?_
  refine g_iload_n F dX5_atom0_161 1 rfl ?_
  exact g_iret F R rfl rfl dX5_atom0_162 ⟨_, _, rfl, rfl, h⟩
set_option maxRecDepth 20000 in
theorem ctX5_atom0 (l : Launch) (g : kG) (A : Nat → Prop) (a : Nat → Nat) (E : va_W) {σ : kS} {Q : Int32 → kS → Prop} (h : wX5_atom0 σ Q) : kCt l yX5_atom0 cX5_atom0 2 (some .int) 34 791 0 0 g A [.ref (a 0)] (mW g a E σ) (kPi (mW g a E) Q) := by
  refine kCt.of (lv0 := [(0, .ref (a 0))]) (by decide +kernel) (Nat.le_of_ble_eq_true rfl) rfl (fun z hl hg hA F R => ?_)
  subst hl hg hA
  have F : kF z cX5_atom0 RX5 2 { frames := 34, cells := 0, slots := 0, locals := 791 } := F
  unfold wX5_atom0 at h
  refine g_iconst (v := (0 : Int32)) F dX5_atom0_0 (by decide) ?_
  refine g_istore_n (lv' := [(1, .int (0 : Int32)), (0, .ref (a 0))]) F dX5_atom0_1 rfl rfl ?_
  refine g_aload_n F dX5_atom0_2 1 rfl ?_
  refine g_bipush (v := (45 : Int32)) F dX5_atom0_3 (by decide) ?_
  refine rX5_X5_isSign F dX5_atom0_5 rfl h (fun r2 s1 h => ?_)
  refine g_if_eq F dX5_atom0_8 (tgt := 37) (by decide) (fun c3 => ?_) (fun c3 => ?_)
  · replace h := h.1 c3
    refine g_aload_n F dX5_atom0_37 1 rfl ?_
    refine g_bipush (v := (40 : Int32)) F dX5_atom0_38 (by decide) ?_
    refine rX5_X5_isSign F dX5_atom0_40 rfl h (fun r5 s4 h => ?_)
    refine g_if_eq F dX5_atom0_43 (tgt := 95) (by decide) (fun c6 => ?_) (fun c6 => ?_)
    · replace h := h.1 c6
      refine g_aload_n F dX5_atom0_95 1 rfl ?_
      refine rgX5_X5_bad F dX5_atom0_96 ?_
      refine g_if_ne F dX5_atom0_99 (tgt := 123) (by decide) (fun c7 => ?_) (fun c7 => ?_)
      · replace h := h.1 c7
        exact g_sub [1, 0] rfl (sX5_atom0_123 F R h)
      replace h := h.2 c7
      refine g_aload_n F dX5_atom0_102 1 rfl ?_
      refine rgX5_X5_token F dX5_atom0_103 ?_
      refine g_iconst (v := (2 : Int32)) F dX5_atom0_106 (by decide) ?_
      refine g_icmp_ne F dX5_atom0_107 (tgt := 123) (by decide) (fun c8 => ?_) (fun c8 => ?_)
      · replace h := h.1 c8
        exact g_sub [1, 0] rfl (sX5_atom0_123 F R h)
      replace h := h.2 c8
      refine g_aload_n F dX5_atom0_110 1 rfl ?_
      refine rgX5_X5_tokenWorth F dX5_atom0_111 ?_
      refine g_l2i F dX5_atom0_114 ?_
      refine g_topi (fun x9 ex9 => ?_)
      replace h := h x9 ex9
      refine g_istore_n (lv' := [(1, .int x9), (0, .ref (a 0))]) F dX5_atom0_115 rfl rfl ?_
      refine g_aload_n F dX5_atom0_116 1 rfl ?_
      refine rX5_X5_next F dX5_atom0_117 rfl h (fun s10 h => ?_)
      refine g_goto F dX5_atom0_120 (tgt := 161) (by decide) ?_
      refine g_iload_n F dX5_atom0_161 0 rfl ?_
      exact g_iret F R rfl rfl dX5_atom0_162 ⟨_, _, rfl, rfl, h⟩
    replace h := h.2 c6
    refine g_aload_n F dX5_atom0_46 1 rfl ?_
    refine rX5_X5_opens F dX5_atom0_47 rfl h (fun r12 s11 h => ?_)
    refine g_if_eq F dX5_atom0_50 (tgt := 161) (by decide) (fun c13 => ?_) (fun c13 => ?_)
    · replace h := h.1 c13
      refine g_iload_n F dX5_atom0_161 0 rfl ?_
      exact g_iret F R rfl rfl dX5_atom0_162 ⟨_, _, rfl, rfl, h⟩
    replace h := h.2 c13
    refine g_aload_n F dX5_atom0_53 1 rfl ?_
    refine rX5_X5_either1 F dX5_atom0_54 rfl h (fun r15 s14 h => ?_)
    refine g_istore_n (lv' := [(1, .int r15), (0, .ref (a 0))]) F dX5_atom0_57 rfl rfl ?_
    refine g_aload_n F dX5_atom0_58 1 rfl ?_
    refine g_bipush (v := (41 : Int32)) F dX5_atom0_59 (by decide) ?_
    refine rX5_X5_isSign F dX5_atom0_61 rfl h (fun r17 s16 h => ?_)
    refine g_if_ne F dX5_atom0_64 (tgt := 71) (by decide) (fun c18 => ?_) (fun c18 => ?_)
    · replace h := h.1 c18
      exact g_sub [1, 0] rfl (sX5_atom0_71 F R h)
    replace h := h.2 c18
    refine g_aload_n F dX5_atom0_67 1 rfl ?_
    refine rX5_X5_fail F dX5_atom0_68 rfl h (fun s19 h => ?_)
    exact g_sub [1, 0] rfl (sX5_atom0_71 F R h)
  replace h := h.2 c3
  refine g_aload_n F dX5_atom0_11 1 rfl ?_
  refine rX5_X5_opens F dX5_atom0_12 rfl h (fun r21 s20 h => ?_)
  refine g_if_eq F dX5_atom0_15 (tgt := 161) (by decide) (fun c22 => ?_) (fun c22 => ?_)
  · replace h := h.1 c22
    refine g_iload_n F dX5_atom0_161 0 rfl ?_
    exact g_iret F R rfl rfl dX5_atom0_162 ⟨_, _, rfl, rfl, h⟩
  replace h := h.2 c22
  refine g_aload_n F dX5_atom0_18 1 rfl ?_
  refine rX5_X5_atom1 F dX5_atom0_19 rfl h (fun r24 s23 h => ?_)
  refine g_ineg F dX5_atom0_22 ?_
  refine g_topi (fun x25 ex25 => ?_)
  replace h := h x25 ex25
  refine g_istore_n (lv' := [(1, .int x25), (0, .ref (a 0))]) F dX5_atom0_23 rfl rfl ?_
  refine g_aload_n F dX5_atom0_24 1 rfl ?_
  refine g_dup F dX5_atom0_25 rfl ?_
  refine rgX5_X5_open F dX5_atom0_26 ?_
  refine g_iconst (v := (1 : Int32)) F dX5_atom0_29 (by decide) ?_
  refine g_isub F dX5_atom0_30 ?_
  refine rpX5_X5_open F dX5_atom0_31 ?_
  refine g_name (wf := mW (zg z) a E) (fun s26 es26 => ?_)
  replace h := h s26 es26
  refine g_goto F dX5_atom0_34 (tgt := 161) (by decide) ?_
  refine g_iload_n F dX5_atom0_161 0 rfl ?_
  exact g_iret F R rfl rfl dX5_atom0_162 ⟨_, _, rfl, rfl, h⟩
theorem plX5_atom0 : kPlain yX5_atom0 0 = true := by decide +kernel
theorem rX5_X5_atom0 {z : kZ} {cc : ByteArray} {nL : Nat} {rm : Room} {c n pc : Nat} {lv : List (Nat × Value)} {st : List Value} {a : Nat → Nat} {E : va_W} {σ : kS} {Q : Int32 → kS → Prop} (F : kF z cc RX5 nL rm) (hd : decode cc pc = .ok (.invokevirtual 309, 3)) (hf : kFits rm 34 791 0 0 2 c n st = true) (h : wX5_atom0 σ Q) (k : ∀ (v : Int32) (σ' : kS), Q v σ' → kV z (mW (zg z) a E σ') c n (pc + 3) lv (.int v :: st)) : kV z (mW (zg z) a E σ) c n pc lv (.ref (a 0) :: st) := by
  exact g_callV F (av := []) (ctX5_atom0 _ _ _ a E h) (ci := 5) (q0 := 0) rfl rfl rfl wq1171 wq1173 wq89 wq114 wq1174 plX5_atom0 hd hf (fun r ws' hq => by
    obtain ⟨v, σ', rfl, rfl, hq⟩ := hq
    exact k v σ' hq)
set_option maxRecDepth 20000 in
theorem sX5_term0_5 {z : kZ} {a : Nat → Nat} {E : va_W}  {Q : Int32 → kS → Prop} {l1 : Int32} {σ : kS} (F : kF z cX5_term0 RX5 2 { frames := 35, cells := 0, slots := 0, locals := 812 }) (R : kR z (some .int) 0 0 (kPi (mW (zg z) a E) Q)) (h : wX5_term0_5 Q l1 σ) : kV z (mW (zg z) a E σ) 0 0 5 [(0, .ref (a 0)), (1, .int l1)] [] := by
  unfold wX5_term0_5 at h
  refine h (fun σ l1 => kV z (mW (zg z) a E σ) 0 0 5 [(0, .ref (a 0)), (1, .int l1)] []) (fun σ l1 h => ?_)
  refine g_aload_n F dX5_term0_5 0 rfl ?_
  refine g_bipush (v := (42 : Int32)) F dX5_term0_6 (by decide) ?_
  refine rX5_X5_isSign F dX5_term0_8 rfl h (fun r4 s3 h => ?_)
  refine g_if_eq F dX5_term0_11 (tgt := 28) (by decide) (fun c5 => ?_) (fun c5 => ?_)
  · replace h := h.1 c5
    refine g_iload_n F dX5_term0_28 1 rfl ?_
    exact g_iret F R rfl rfl dX5_term0_29 ⟨_, _, rfl, rfl, h⟩
  replace h := h.2 c5
  refine g_aload_n F dX5_term0_14 0 rfl ?_
  refine rX5_X5_next F dX5_term0_15 rfl h (fun s6 h => ?_)
  refine g_iload_n F dX5_term0_18 1 rfl ?_
  refine g_aload_n F dX5_term0_19 0 rfl ?_
  refine rX5_X5_atom0 F dX5_term0_20 rfl h (fun r8 s7 h => ?_)
  refine g_imul F dX5_term0_23 ?_
  refine g_topi (fun x9 ex9 => ?_)
  replace h := h x9 ex9
  refine g_istore_n (lv' := [(1, .int x9), (0, .ref (a 0))]) F dX5_term0_24 rfl rfl ?_
  refine g_goto F dX5_term0_25 (tgt := 5) (by decide) ?_
  exact (g_sub [1, 0] rfl h)
set_option maxRecDepth 20000 in
theorem ctX5_term0 (l : Launch) (g : kG) (A : Nat → Prop) (a : Nat → Nat) (E : va_W) {σ : kS} {Q : Int32 → kS → Prop} (h : wX5_term0 σ Q) : kCt l yX5_term0 cX5_term0 2 (some .int) 35 812 0 0 g A [.ref (a 0)] (mW g a E σ) (kPi (mW g a E) Q) := by
  refine kCt.of (lv0 := [(0, .ref (a 0))]) (by decide +kernel) (Nat.le_of_ble_eq_true rfl) rfl (fun z hl hg hA F R => ?_)
  subst hl hg hA
  have F : kF z cX5_term0 RX5 2 { frames := 35, cells := 0, slots := 0, locals := 812 } := F
  unfold wX5_term0 at h
  refine g_aload_n F dX5_term0_0 0 rfl ?_
  refine rX5_X5_atom0 F dX5_term0_1 rfl h (fun r2 s1 h => ?_)
  refine g_istore_n (lv' := [(1, .int r2), (0, .ref (a 0))]) F dX5_term0_4 rfl rfl ?_
  exact g_sub [1, 0] rfl (sX5_term0_5 F R h)
theorem plX5_term0 : kPlain yX5_term0 0 = true := by decide +kernel
theorem rX5_X5_term0 {z : kZ} {cc : ByteArray} {nL : Nat} {rm : Room} {c n pc : Nat} {lv : List (Nat × Value)} {st : List Value} {a : Nat → Nat} {E : va_W} {σ : kS} {Q : Int32 → kS → Prop} (F : kF z cc RX5 nL rm) (hd : decode cc pc = .ok (.invokevirtual 312, 3)) (hf : kFits rm 35 812 0 0 2 c n st = true) (h : wX5_term0 σ Q) (k : ∀ (v : Int32) (σ' : kS), Q v σ' → kV z (mW (zg z) a E σ') c n (pc + 3) lv (.int v :: st)) : kV z (mW (zg z) a E σ) c n pc lv (.ref (a 0) :: st) := by
  exact g_callV F (av := []) (ctX5_term0 _ _ _ a E h) (ci := 5) (q0 := 0) rfl rfl rfl wq1167 wq1169 wq88 wq114 wq1170 plX5_term0 hd hf (fun r ws' hq => by
    obtain ⟨v, σ', rfl, rfl, hq⟩ := hq
    exact k v σ' hq)
set_option maxRecDepth 20000 in
theorem sX5_added0_39 {z : kZ} {a : Nat → Nat} {E : va_W}  {Q : Int32 → kS → Prop} {P5 : kS → Int32 → Prop} {l1 : Int32} {ks0 : Int32} {σ : kS} (F : kF z cX5_added0 RX5 4 { frames := 36, cells := 0, slots := 0, locals := 833 }) (R : kR z (some .int) 0 0 (kPi (mW (zg z) a E) Q)) (hP5 : ∀ (σ : kS) (l1 : Int32), P5 σ l1 → kV z (mW (zg z) a E σ) 0 0 5 [(0, .ref (a 0)), (1, .int l1)] []) (h : wX5_added0_39 Q P5 l1 ks0 σ) : kV z (mW (zg z) a E σ) 0 0 39 [(0, .ref (a 0)), (1, .int l1)] [.int ks0] := by
  unfold wX5_added0_39 at h
  refine g_istore_n (lv' := [(2, .int ks0), (0, .ref (a 0)), (1, .int l1)]) F dX5_added0_39 rfl rfl ?_
  refine g_aload_n F dX5_added0_40 1 rfl ?_
  refine rX5_X5_next F dX5_added0_41 rfl h (fun s10 h => ?_)
  refine g_aload_n F dX5_added0_44 1 rfl ?_
  refine rX5_X5_term0 F dX5_added0_45 rfl h (fun r12 s11 h => ?_)
  refine g_istore_n (lv' := [(3, .int r12), (2, .int ks0), (0, .ref (a 0)), (1, .int l1)]) F dX5_added0_48 rfl rfl ?_
  refine g_iload_n F dX5_added0_49 1 rfl ?_
  refine g_if_eq F dX5_added0_50 (tgt := 59) (by decide) (fun c13 => ?_) (fun c13 => ?_)
  · replace h := h.1 c13
    refine g_iload_n F dX5_added0_59 3 rfl ?_
    refine g_iload_n F dX5_added0_60 0 rfl ?_
    refine g_isub F dX5_added0_61 ?_
    refine g_topi (fun x14 ex14 => ?_)
    replace h := h x14 ex14
    refine g_istore_n (lv' := [(1, .int x14), (3, .int r12), (2, .int ks0), (0, .ref (a 0))]) F dX5_added0_62 rfl rfl ?_
    refine g_goto F dX5_added0_63 (tgt := 5) (by decide) ?_
    exact g_sub [3, 0] rfl (hP5 _ _ h)
  replace h := h.2 c13
  refine g_iload_n F dX5_added0_53 3 rfl ?_
  refine g_iload_n F dX5_added0_54 0 rfl ?_
  refine g_iadd F dX5_added0_55 ?_
  refine g_goto F dX5_added0_56 (tgt := 62) (by decide) ?_
  refine g_topi (fun x15 ex15 => ?_)
  replace h := h x15 ex15
  refine g_istore_n (lv' := [(1, .int x15), (3, .int r12), (2, .int ks0), (0, .ref (a 0))]) F dX5_added0_62 rfl rfl ?_
  refine g_goto F dX5_added0_63 (tgt := 5) (by decide) ?_
  exact g_sub [3, 0] rfl (hP5 _ _ h)
set_option maxRecDepth 20000 in
theorem sX5_added0_23 {z : kZ} {a : Nat → Nat} {E : va_W}  {Q : Int32 → kS → Prop} {P5 : kS → Int32 → Prop} {l1 : Int32} {σ : kS} (F : kF z cX5_added0 RX5 4 { frames := 36, cells := 0, slots := 0, locals := 833 }) (R : kR z (some .int) 0 0 (kPi (mW (zg z) a E) Q)) (hP5 : ∀ (σ : kS) (l1 : Int32), P5 σ l1 → kV z (mW (zg z) a E σ) 0 0 5 [(0, .ref (a 0)), (1, .int l1)] []) (h : wX5_added0_23 Q P5 l1 σ) : kV z (mW (zg z) a E σ) 0 0 23 [(0, .ref (a 0)), (1, .int l1)] [] := by
  unfold wX5_added0_23 at h
  refine g_aload_n F dX5_added0_23 0 rfl ?_
  refine rgX5_X5_tokenWorth F dX5_added0_24 ?_
  refine g_ldc2 (v := (43 : Int64)) F dX5_added0_27 wq1081 ?_
  refine g_lcmp F dX5_added0_30 ?_
  refine g_if_ne F dX5_added0_31 (tgt := 38) (by decide) (fun c9 => ?_) (fun c9 => ?_)
  · replace h := h.1 c9
    refine g_iconst (v := (0 : Int32)) F dX5_added0_38 (by decide) ?_
    exact (sX5_added0_39 F R hP5 h)
  replace h := h.2 c9
  refine g_iconst (v := (1 : Int32)) F dX5_added0_34 (by decide) ?_
  refine g_goto F dX5_added0_35 (tgt := 39) (by decide) ?_
  exact (sX5_added0_39 F R hP5 h)
set_option maxRecDepth 20000 in
theorem sX5_added0_5 {z : kZ} {a : Nat → Nat} {E : va_W}  {Q : Int32 → kS → Prop} {l1 : Int32} {σ : kS} (F : kF z cX5_added0 RX5 4 { frames := 36, cells := 0, slots := 0, locals := 833 }) (R : kR z (some .int) 0 0 (kPi (mW (zg z) a E) Q)) (h : wX5_added0_5 Q l1 σ) : kV z (mW (zg z) a E σ) 0 0 5 [(0, .ref (a 0)), (1, .int l1)] [] := by
  unfold wX5_added0_5 at h
  refine h (fun σ l1 => kV z (mW (zg z) a E σ) 0 0 5 [(0, .ref (a 0)), (1, .int l1)] []) (fun σ l1 h => ?_)
  refine g_aload_n F dX5_added0_5 0 rfl ?_
  refine g_bipush (v := (43 : Int32)) F dX5_added0_6 (by decide) ?_
  refine rX5_X5_isSign F dX5_added0_8 rfl h (fun r4 s3 h => ?_)
  refine g_if_ne F dX5_added0_11 (tgt := 23) (by decide) (fun c5 => ?_) (fun c5 => ?_)
  · replace h := h.1 c5
    exact (sX5_added0_23 F R (fun _ _ h => h) h)
  replace h := h.2 c5
  refine g_aload_n F dX5_added0_14 0 rfl ?_
  refine g_bipush (v := (45 : Int32)) F dX5_added0_15 (by decide) ?_
  refine rX5_X5_isSign F dX5_added0_17 rfl h (fun r7 s6 h => ?_)
  refine g_if_eq F dX5_added0_20 (tgt := 66) (by decide) (fun c8 => ?_) (fun c8 => ?_)
  · replace h := h.1 c8
    refine g_iload_n F dX5_added0_66 1 rfl ?_
    exact g_iret F R rfl rfl dX5_added0_67 ⟨_, _, rfl, rfl, h⟩
  replace h := h.2 c8
  exact (sX5_added0_23 F R (fun _ _ h => h) h)
set_option maxRecDepth 20000 in
theorem ctX5_added0 (l : Launch) (g : kG) (A : Nat → Prop) (a : Nat → Nat) (E : va_W) {σ : kS} {Q : Int32 → kS → Prop} (h : wX5_added0 σ Q) : kCt l yX5_added0 cX5_added0 4 (some .int) 36 833 0 0 g A [.ref (a 0)] (mW g a E σ) (kPi (mW g a E) Q) := by
  refine kCt.of (lv0 := [(0, .ref (a 0))]) (by decide +kernel) (Nat.le_of_ble_eq_true rfl) rfl (fun z hl hg hA F R => ?_)
  subst hl hg hA
  have F : kF z cX5_added0 RX5 4 { frames := 36, cells := 0, slots := 0, locals := 833 } := F
  unfold wX5_added0 at h
  refine g_aload_n F dX5_added0_0 0 rfl ?_
  refine rX5_X5_term0 F dX5_added0_1 rfl h (fun r2 s1 h => ?_)
  refine g_istore_n (lv' := [(1, .int r2), (0, .ref (a 0))]) F dX5_added0_4 rfl rfl ?_
  exact g_sub [1, 0] rfl (sX5_added0_5 F R h)
theorem plX5_added0 : kPlain yX5_added0 0 = true := by decide +kernel
theorem rX5_X5_added0 {z : kZ} {cc : ByteArray} {nL : Nat} {rm : Room} {c n pc : Nat} {lv : List (Nat × Value)} {st : List Value} {a : Nat → Nat} {E : va_W} {σ : kS} {Q : Int32 → kS → Prop} (F : kF z cc RX5 nL rm) (hd : decode cc pc = .ok (.invokevirtual 315, 3)) (hf : kFits rm 36 833 0 0 4 c n st = true) (h : wX5_added0 σ Q) (k : ∀ (v : Int32) (σ' : kS), Q v σ' → kV z (mW (zg z) a E σ') c n (pc + 3) lv (.int v :: st)) : kV z (mW (zg z) a E σ) c n pc lv (.ref (a 0) :: st) := by
  exact g_callV F (av := []) (ctX5_added0 _ _ _ a E h) (ci := 5) (q0 := 0) rfl rfl rfl wq1163 wq1165 wq87 wq114 wq1166 plX5_added0 hd hf (fun r ws' hq => by
    obtain ⟨v, σ', rfl, rfl, hq⟩ := hq
    exact k v σ' hq)
set_option maxRecDepth 20000 in
theorem sX5_not0_93 {z : kZ} {a : Nat → Nat} {E : va_W}  {Q : Int32 → kS → Prop} {l1 : Int32} {ks0 : Int32} {σ : kS} (F : kF z cX5_not0 RX5 4 { frames := 37, cells := 0, slots := 0, locals := 856 }) (R : kR z (some .int) 0 0 (kPi (mW (zg z) a E) Q)) (h : wX5_not0_93 Q l1 ks0 σ) : kV z (mW (zg z) a E σ) 0 0 93 [(0, .ref (a 0)), (1, .int l1)] [.int ks0] := by
  unfold wX5_not0_93 at h
  refine g_istore_n (lv' := [(2, .int ks0), (0, .ref (a 0)), (1, .int l1)]) F dX5_not0_93 rfl rfl ?_
  refine g_aload_n F dX5_not0_94 1 rfl ?_
  refine rX5_X5_next F dX5_not0_95 rfl h (fun s20 h => ?_)
  refine g_aload_n F dX5_not0_98 1 rfl ?_
  refine rX5_X5_added0 F dX5_not0_99 rfl h (fun r22 s21 h => ?_)
  refine g_istore_n (lv' := [(3, .int r22), (2, .int ks0), (0, .ref (a 0)), (1, .int l1)]) F dX5_not0_102 rfl rfl ?_
  refine g_iload_n F dX5_not0_103 1 rfl ?_
  refine g_if_eq F dX5_not0_104 (tgt := 115) (by decide) (fun c23 => ?_) (fun c23 => ?_)
  · replace h := h.1 c23
    refine g_iload_n F dX5_not0_115 3 rfl ?_
    refine g_iload_n F dX5_not0_116 0 rfl ?_
    refine g_icmp_ne F dX5_not0_117 (tgt := 124) (by decide) (fun c24 => ?_) (fun c24 => ?_)
    · replace h := h.1 c24
      refine g_iconst (v := (0 : Int32)) F dX5_not0_124 (by decide) ?_
      exact g_iret F R rfl rfl dX5_not0_125 ⟨_, _, rfl, rfl, h⟩
    replace h := h.2 c24
    refine g_iconst (v := (1 : Int32)) F dX5_not0_120 (by decide) ?_
    refine g_goto F dX5_not0_121 (tgt := 125) (by decide) ?_
    exact g_iret F R rfl rfl dX5_not0_125 ⟨_, _, rfl, rfl, h⟩
  replace h := h.2 c23
  refine g_iload_n F dX5_not0_107 3 rfl ?_
  refine g_iload_n F dX5_not0_108 0 rfl ?_
  refine g_icmp_ge F dX5_not0_109 (tgt := 124) (by decide) (fun c25 => ?_) (fun c25 => ?_)
  · replace h := h.1 c25
    refine g_iconst (v := (0 : Int32)) F dX5_not0_124 (by decide) ?_
    exact g_iret F R rfl rfl dX5_not0_125 ⟨_, _, rfl, rfl, h⟩
  replace h := h.2 c25
  refine g_goto F dX5_not0_112 (tgt := 120) (by decide) ?_
  refine g_iconst (v := (1 : Int32)) F dX5_not0_120 (by decide) ?_
  refine g_goto F dX5_not0_121 (tgt := 125) (by decide) ?_
  exact g_iret F R rfl rfl dX5_not0_125 ⟨_, _, rfl, rfl, h⟩
set_option maxRecDepth 20000 in
theorem sX5_not0_77 {z : kZ} {a : Nat → Nat} {E : va_W}  {Q : Int32 → kS → Prop} {l1 : Int32} {σ : kS} (F : kF z cX5_not0 RX5 4 { frames := 37, cells := 0, slots := 0, locals := 856 }) (R : kR z (some .int) 0 0 (kPi (mW (zg z) a E) Q)) (h : wX5_not0_77 Q l1 σ) : kV z (mW (zg z) a E σ) 0 0 77 [(0, .ref (a 0)), (1, .int l1)] [] := by
  unfold wX5_not0_77 at h
  refine g_aload_n F dX5_not0_77 0 rfl ?_
  refine rgX5_X5_tokenWorth F dX5_not0_78 ?_
  refine g_ldc2 (v := (60 : Int64)) F dX5_not0_81 wq1082 ?_
  refine g_lcmp F dX5_not0_84 ?_
  refine g_if_ne F dX5_not0_85 (tgt := 92) (by decide) (fun c19 => ?_) (fun c19 => ?_)
  · replace h := h.1 c19
    refine g_iconst (v := (0 : Int32)) F dX5_not0_92 (by decide) ?_
    exact (sX5_not0_93 F R h)
  replace h := h.2 c19
  refine g_iconst (v := (1 : Int32)) F dX5_not0_88 (by decide) ?_
  refine g_goto F dX5_not0_89 (tgt := 93) (by decide) ?_
  exact (sX5_not0_93 F R h)
set_option maxRecDepth 20000 in
theorem ctX5_not0 (l : Launch) (g : kG) (A : Nat → Prop) (a : Nat → Nat) (E : va_W) {σ : kS} {Q : Int32 → kS → Prop} (h : wX5_not0 σ Q) : kCt l yX5_not0 cX5_not0 4 (some .int) 37 856 0 0 g A [.ref (a 0)] (mW g a E σ) (kPi (mW g a E) Q) := by
  refine kCt.of (lv0 := [(0, .ref (a 0))]) (by decide +kernel) (Nat.le_of_ble_eq_true rfl) rfl (fun z hl hg hA F R => ?_)
  subst hl hg hA
  have F : kF z cX5_not0 RX5 4 { frames := 37, cells := 0, slots := 0, locals := 856 } := F
  unfold wX5_not0 at h
  refine g_aload_n F dX5_not0_0 0 rfl ?_
  refine g_bipush (v := (110 : Int32)) F dX5_not0_1 (by decide) ?_
  refine g_bipush (v := (111 : Int32)) F dX5_not0_3 (by decide) ?_
  refine g_bipush (v := (116 : Int32)) F dX5_not0_5 (by decide) ?_
  refine g_iconst (v := (0 : Int32)) F dX5_not0_7 (by decide) ?_
  refine g_iconst (v := (0 : Int32)) F dX5_not0_8 (by decide) ?_
  refine g_iconst (v := (0 : Int32)) F dX5_not0_9 (by decide) ?_
  refine g_iconst (v := (0 : Int32)) F dX5_not0_10 (by decide) ?_
  refine g_iconst (v := (0 : Int32)) F dX5_not0_11 (by decide) ?_
  refine rX5_X5_isWord F dX5_not0_12 rfl h (fun r2 s1 h => ?_)
  refine g_if_eq F dX5_not0_15 (tgt := 52) (by decide) (fun c3 => ?_) (fun c3 => ?_)
  · replace h := h.1 c3
    refine g_aload_n F dX5_not0_52 0 rfl ?_
    refine rX5_X5_added0 F dX5_not0_53 rfl h (fun r5 s4 h => ?_)
    refine g_istore_n (lv' := [(1, .int r5), (0, .ref (a 0))]) F dX5_not0_56 rfl rfl ?_
    refine g_aload_n F dX5_not0_57 1 rfl ?_
    refine g_bipush (v := (60 : Int32)) F dX5_not0_58 (by decide) ?_
    refine rX5_X5_isSign F dX5_not0_60 rfl h (fun r7 s6 h => ?_)
    refine g_if_ne F dX5_not0_63 (tgt := 77) (by decide) (fun c8 => ?_) (fun c8 => ?_)
    · replace h := h.1 c8
      exact g_sub [1, 0] rfl (sX5_not0_77 F R h)
    replace h := h.2 c8
    refine g_aload_n F dX5_not0_66 1 rfl ?_
    refine g_bipush (v := (61 : Int32)) F dX5_not0_67 (by decide) ?_
    refine rX5_X5_isSign F dX5_not0_69 rfl h (fun r10 s9 h => ?_)
    refine g_if_ne F dX5_not0_72 (tgt := 77) (by decide) (fun c11 => ?_) (fun c11 => ?_)
    · replace h := h.1 c11
      exact g_sub [1, 0] rfl (sX5_not0_77 F R h)
    replace h := h.2 c11
    refine g_iload_n F dX5_not0_75 0 rfl ?_
    exact g_iret F R rfl rfl dX5_not0_76 ⟨_, _, rfl, rfl, h⟩
  replace h := h.2 c3
  refine g_aload_n F dX5_not0_18 0 rfl ?_
  refine rX5_X5_opens F dX5_not0_19 rfl h (fun r13 s12 h => ?_)
  refine g_if_ne F dX5_not0_22 (tgt := 27) (by decide) (fun c14 => ?_) (fun c14 => ?_)
  · replace h := h.1 c14
    refine g_aload_n F dX5_not0_27 0 rfl ?_
    refine rX5_X5_not1 F dX5_not0_28 rfl h (fun r16 s15 h => ?_)
    refine g_istore_n (lv' := [(1, .int r16), (0, .ref (a 0))]) F dX5_not0_31 rfl rfl ?_
    refine g_aload_n F dX5_not0_32 1 rfl ?_
    refine g_dup F dX5_not0_33 rfl ?_
    refine rgX5_X5_open F dX5_not0_34 ?_
    refine g_iconst (v := (1 : Int32)) F dX5_not0_37 (by decide) ?_
    refine g_isub F dX5_not0_38 ?_
    refine rpX5_X5_open F dX5_not0_39 ?_
    refine g_name (wf := mW (zg z) a E) (fun s17 es17 => ?_)
    replace h := h s17 es17
    refine g_iload_n F dX5_not0_42 0 rfl ?_
    refine g_if_ne F dX5_not0_43 (tgt := 50) (by decide) (fun c18 => ?_) (fun c18 => ?_)
    · replace h := h.1 c18
      refine g_iconst (v := (0 : Int32)) F dX5_not0_50 (by decide) ?_
      exact g_iret F R rfl rfl dX5_not0_51 ⟨_, _, rfl, rfl, h⟩
    replace h := h.2 c18
    refine g_iconst (v := (1 : Int32)) F dX5_not0_46 (by decide) ?_
    refine g_goto F dX5_not0_47 (tgt := 51) (by decide) ?_
    exact g_iret F R rfl rfl dX5_not0_51 ⟨_, _, rfl, rfl, h⟩
  replace h := h.2 c14
  refine g_iconst (v := (0 : Int32)) F dX5_not0_25 (by decide) ?_
  exact g_iret F R rfl rfl dX5_not0_26 ⟨_, _, rfl, rfl, h⟩
theorem plX5_not0 : kPlain yX5_not0 0 = true := by decide +kernel
theorem rX5_X5_not0 {z : kZ} {cc : ByteArray} {nL : Nat} {rm : Room} {c n pc : Nat} {lv : List (Nat × Value)} {st : List Value} {a : Nat → Nat} {E : va_W} {σ : kS} {Q : Int32 → kS → Prop} (F : kF z cc RX5 nL rm) (hd : decode cc pc = .ok (.invokevirtual 318, 3)) (hf : kFits rm 37 856 0 0 4 c n st = true) (h : wX5_not0 σ Q) (k : ∀ (v : Int32) (σ' : kS), Q v σ' → kV z (mW (zg z) a E σ') c n (pc + 3) lv (.int v :: st)) : kV z (mW (zg z) a E σ) c n pc lv (.ref (a 0) :: st) := by
  exact g_callV F (av := []) (ctX5_not0 _ _ _ a E h) (ci := 5) (q0 := 0) rfl rfl rfl wq1033 wq1035 wq55 wq114 wq1036 plX5_not0 hd hf (fun r ws' hq => by
    obtain ⟨v, σ', rfl, rfl, hq⟩ := hq
    exact k v σ' hq)
set_option maxRecDepth 20000 in
theorem sX5_both0_5 {z : kZ} {a : Nat → Nat} {E : va_W}  {Q : Int32 → kS → Prop} {l1 : Int32} {σ : kS} (F : kF z cX5_both0 RX5 3 { frames := 38, cells := 0, slots := 0, locals := 879 }) (R : kR z (some .int) 0 0 (kPi (mW (zg z) a E) Q)) (h : wX5_both0_5 Q l1 σ) : kV z (mW (zg z) a E σ) 0 0 5 [(0, .ref (a 0)), (1, .int l1)] [] := by
  unfold wX5_both0_5 at h
  refine h (fun σ l1 => kV z (mW (zg z) a E σ) 0 0 5 [(0, .ref (a 0)), (1, .int l1)] []) (fun σ l1 h => ?_)
  refine g_aload_n F dX5_both0_5 0 rfl ?_
  refine g_bipush (v := (97 : Int32)) F dX5_both0_6 (by decide) ?_
  refine g_bipush (v := (110 : Int32)) F dX5_both0_8 (by decide) ?_
  refine g_bipush (v := (100 : Int32)) F dX5_both0_10 (by decide) ?_
  refine g_iconst (v := (0 : Int32)) F dX5_both0_12 (by decide) ?_
  refine g_iconst (v := (0 : Int32)) F dX5_both0_13 (by decide) ?_
  refine g_iconst (v := (0 : Int32)) F dX5_both0_14 (by decide) ?_
  refine g_iconst (v := (0 : Int32)) F dX5_both0_15 (by decide) ?_
  refine g_iconst (v := (0 : Int32)) F dX5_both0_16 (by decide) ?_
  refine rX5_X5_isWord F dX5_both0_17 rfl h (fun r4 s3 h => ?_)
  refine g_if_eq F dX5_both0_20 (tgt := 49) (by decide) (fun c5 => ?_) (fun c5 => ?_)
  · replace h := h.1 c5
    refine g_iload_n F dX5_both0_49 1 rfl ?_
    exact g_iret F R rfl rfl dX5_both0_50 ⟨_, _, rfl, rfl, h⟩
  replace h := h.2 c5
  refine g_aload_n F dX5_both0_23 0 rfl ?_
  refine rX5_X5_next F dX5_both0_24 rfl h (fun s6 h => ?_)
  refine g_aload_n F dX5_both0_27 0 rfl ?_
  refine rX5_X5_not0 F dX5_both0_28 rfl h (fun r8 s7 h => ?_)
  refine g_istore_n (lv' := [(2, .int r8), (0, .ref (a 0)), (1, .int l1)]) F dX5_both0_31 rfl rfl ?_
  refine g_iload_n F dX5_both0_32 2 rfl ?_
  refine g_if_eq F dX5_both0_33 (tgt := 44) (by decide) (fun c9 => ?_) (fun c9 => ?_)
  · replace h := h.1 c9
    refine g_iconst (v := (0 : Int32)) F dX5_both0_44 (by decide) ?_
    refine g_istore_n (lv' := [(1, .int (0 : Int32)), (2, .int r8), (0, .ref (a 0))]) F dX5_both0_45 rfl rfl ?_
    refine g_goto F dX5_both0_46 (tgt := 5) (by decide) ?_
    exact (g_sub [2, 0] rfl h)
  replace h := h.2 c9
  refine g_iload_n F dX5_both0_36 0 rfl ?_
  refine g_if_eq F dX5_both0_37 (tgt := 44) (by decide) (fun c10 => ?_) (fun c10 => ?_)
  · replace h := h.1 c10
    refine g_iconst (v := (0 : Int32)) F dX5_both0_44 (by decide) ?_
    refine g_istore_n (lv' := [(1, .int (0 : Int32)), (2, .int r8), (0, .ref (a 0))]) F dX5_both0_45 rfl rfl ?_
    refine g_goto F dX5_both0_46 (tgt := 5) (by decide) ?_
    exact (g_sub [2, 0] rfl h)
  replace h := h.2 c10
  refine g_iconst (v := (1 : Int32)) F dX5_both0_40 (by decide) ?_
  refine g_goto F dX5_both0_41 (tgt := 45) (by decide) ?_
  refine g_istore_n (lv' := [(1, .int (1 : Int32)), (2, .int r8), (0, .ref (a 0))]) F dX5_both0_45 rfl rfl ?_
  refine g_goto F dX5_both0_46 (tgt := 5) (by decide) ?_
  exact (g_sub [2, 0] rfl h)
set_option maxRecDepth 20000 in
theorem ctX5_both0 (l : Launch) (g : kG) (A : Nat → Prop) (a : Nat → Nat) (E : va_W) {σ : kS} {Q : Int32 → kS → Prop} (h : wX5_both0 σ Q) : kCt l yX5_both0 cX5_both0 3 (some .int) 38 879 0 0 g A [.ref (a 0)] (mW g a E σ) (kPi (mW g a E) Q) := by
  refine kCt.of (lv0 := [(0, .ref (a 0))]) (by decide +kernel) (Nat.le_of_ble_eq_true rfl) rfl (fun z hl hg hA F R => ?_)
  subst hl hg hA
  have F : kF z cX5_both0 RX5 3 { frames := 38, cells := 0, slots := 0, locals := 879 } := F
  unfold wX5_both0 at h
  refine g_aload_n F dX5_both0_0 0 rfl ?_
  refine rX5_X5_not0 F dX5_both0_1 rfl h (fun r2 s1 h => ?_)
  refine g_istore_n (lv' := [(1, .int r2), (0, .ref (a 0))]) F dX5_both0_4 rfl rfl ?_
  exact g_sub [1, 0] rfl (sX5_both0_5 F R h)
theorem plX5_both0 : kPlain yX5_both0 0 = true := by decide +kernel
theorem rX5_X5_both0 {z : kZ} {cc : ByteArray} {nL : Nat} {rm : Room} {c n pc : Nat} {lv : List (Nat × Value)} {st : List Value} {a : Nat → Nat} {E : va_W} {σ : kS} {Q : Int32 → kS → Prop} (F : kF z cc RX5 nL rm) (hd : decode cc pc = .ok (.invokevirtual 321, 3)) (hf : kFits rm 38 879 0 0 3 c n st = true) (h : wX5_both0 σ Q) (k : ∀ (v : Int32) (σ' : kS), Q v σ' → kV z (mW (zg z) a E σ') c n (pc + 3) lv (.int v :: st)) : kV z (mW (zg z) a E σ) c n pc lv (.ref (a 0) :: st) := by
  exact g_callV F (av := []) (ctX5_both0 _ _ _ a E h) (ci := 5) (q0 := 0) rfl rfl rfl wq1029 wq1031 wq54 wq114 wq1032 plX5_both0 hd hf (fun r ws' hq => by
    obtain ⟨v, σ', rfl, rfl, hq⟩ := hq
    exact k v σ' hq)
set_option maxRecDepth 20000 in
theorem sX5_either0_5 {z : kZ} {a : Nat → Nat} {E : va_W}  {Q : Int32 → kS → Prop} {l1 : Int32} {σ : kS} (F : kF z cX5_either0 RX5 3 { frames := 39, cells := 0, slots := 0, locals := 901 }) (R : kR z (some .int) 0 0 (kPi (mW (zg z) a E) Q)) (h : wX5_either0_5 Q l1 σ) : kV z (mW (zg z) a E σ) 0 0 5 [(0, .ref (a 0)), (1, .int l1)] [] := by
  unfold wX5_either0_5 at h
  refine h (fun σ l1 => kV z (mW (zg z) a E σ) 0 0 5 [(0, .ref (a 0)), (1, .int l1)] []) (fun σ l1 h => ?_)
  refine g_aload_n F dX5_either0_5 0 rfl ?_
  refine g_bipush (v := (111 : Int32)) F dX5_either0_6 (by decide) ?_
  refine g_bipush (v := (114 : Int32)) F dX5_either0_8 (by decide) ?_
  refine g_iconst (v := (0 : Int32)) F dX5_either0_10 (by decide) ?_
  refine g_iconst (v := (0 : Int32)) F dX5_either0_11 (by decide) ?_
  refine g_iconst (v := (0 : Int32)) F dX5_either0_12 (by decide) ?_
  refine g_iconst (v := (0 : Int32)) F dX5_either0_13 (by decide) ?_
  refine g_iconst (v := (0 : Int32)) F dX5_either0_14 (by decide) ?_
  refine g_iconst (v := (0 : Int32)) F dX5_either0_15 (by decide) ?_
  refine rX5_X5_isWord F dX5_either0_16 rfl h (fun r4 s3 h => ?_)
  refine g_if_eq F dX5_either0_19 (tgt := 48) (by decide) (fun c5 => ?_) (fun c5 => ?_)
  · replace h := h.1 c5
    refine g_iload_n F dX5_either0_48 1 rfl ?_
    exact g_iret F R rfl rfl dX5_either0_49 ⟨_, _, rfl, rfl, h⟩
  replace h := h.2 c5
  refine g_aload_n F dX5_either0_22 0 rfl ?_
  refine rX5_X5_next F dX5_either0_23 rfl h (fun s6 h => ?_)
  refine g_aload_n F dX5_either0_26 0 rfl ?_
  refine rX5_X5_both0 F dX5_either0_27 rfl h (fun r8 s7 h => ?_)
  refine g_istore_n (lv' := [(2, .int r8), (0, .ref (a 0)), (1, .int l1)]) F dX5_either0_30 rfl rfl ?_
  refine g_iload_n F dX5_either0_31 2 rfl ?_
  refine g_if_ne F dX5_either0_32 (tgt := 39) (by decide) (fun c9 => ?_) (fun c9 => ?_)
  · replace h := h.1 c9
    refine g_iconst (v := (1 : Int32)) F dX5_either0_39 (by decide) ?_
    refine g_goto F dX5_either0_40 (tgt := 44) (by decide) ?_
    refine g_istore_n (lv' := [(1, .int (1 : Int32)), (2, .int r8), (0, .ref (a 0))]) F dX5_either0_44 rfl rfl ?_
    refine g_goto F dX5_either0_45 (tgt := 5) (by decide) ?_
    exact (g_sub [2, 0] rfl h)
  replace h := h.2 c9
  refine g_iload_n F dX5_either0_35 0 rfl ?_
  refine g_if_eq F dX5_either0_36 (tgt := 43) (by decide) (fun c10 => ?_) (fun c10 => ?_)
  · replace h := h.1 c10
    refine g_iconst (v := (0 : Int32)) F dX5_either0_43 (by decide) ?_
    refine g_istore_n (lv' := [(1, .int (0 : Int32)), (2, .int r8), (0, .ref (a 0))]) F dX5_either0_44 rfl rfl ?_
    refine g_goto F dX5_either0_45 (tgt := 5) (by decide) ?_
    exact (g_sub [2, 0] rfl h)
  replace h := h.2 c10
  refine g_iconst (v := (1 : Int32)) F dX5_either0_39 (by decide) ?_
  refine g_goto F dX5_either0_40 (tgt := 44) (by decide) ?_
  refine g_istore_n (lv' := [(1, .int (1 : Int32)), (2, .int r8), (0, .ref (a 0))]) F dX5_either0_44 rfl rfl ?_
  refine g_goto F dX5_either0_45 (tgt := 5) (by decide) ?_
  exact (g_sub [2, 0] rfl h)
set_option maxRecDepth 20000 in
theorem ctX5_either0 (l : Launch) (g : kG) (A : Nat → Prop) (a : Nat → Nat) (E : va_W) {σ : kS} {Q : Int32 → kS → Prop} (h : wX5_either0 σ Q) : kCt l yX5_either0 cX5_either0 3 (some .int) 39 901 0 0 g A [.ref (a 0)] (mW g a E σ) (kPi (mW g a E) Q) := by
  refine kCt.of (lv0 := [(0, .ref (a 0))]) (by decide +kernel) (Nat.le_of_ble_eq_true rfl) rfl (fun z hl hg hA F R => ?_)
  subst hl hg hA
  have F : kF z cX5_either0 RX5 3 { frames := 39, cells := 0, slots := 0, locals := 901 } := F
  unfold wX5_either0 at h
  refine g_aload_n F dX5_either0_0 0 rfl ?_
  refine rX5_X5_both0 F dX5_either0_1 rfl h (fun r2 s1 h => ?_)
  refine g_istore_n (lv' := [(1, .int r2), (0, .ref (a 0))]) F dX5_either0_4 rfl rfl ?_
  exact g_sub [1, 0] rfl (sX5_either0_5 F R h)
theorem plX5_either0 : kPlain yX5_either0 0 = true := by decide +kernel
theorem rX5_X5_either0 {z : kZ} {cc : ByteArray} {nL : Nat} {rm : Room} {c n pc : Nat} {lv : List (Nat × Value)} {st : List Value} {a : Nat → Nat} {E : va_W} {σ : kS} {Q : Int32 → kS → Prop} (F : kF z cc RX5 nL rm) (hd : decode cc pc = .ok (.invokevirtual 324, 3)) (hf : kFits rm 39 901 0 0 3 c n st = true) (h : wX5_either0 σ Q) (k : ∀ (v : Int32) (σ' : kS), Q v σ' → kV z (mW (zg z) a E σ') c n (pc + 3) lv (.int v :: st)) : kV z (mW (zg z) a E σ) c n pc lv (.ref (a 0) :: st) := by
  exact g_callV F (av := []) (ctX5_either0 _ _ _ a E h) (ci := 5) (q0 := 0) rfl rfl rfl wq1025 wq1027 wq53 wq114 wq1028 plX5_either0 hd hf (fun r ws' hq => by
    obtain ⟨v, σ', rfl, rfl, hq⟩ := hq
    exact k v σ' hq)
set_option maxRecDepth 20000 in
theorem sX5_part_48 {z : kZ} {a : Nat → Nat} {E : va_W}  {Q : Int32 → kS → Prop} {l2 : Int32} {σ : kS} (F : kF z cX5_part RX5 3 { frames := 40, cells := 0, slots := 0, locals := 923 }) (R : kR z (some .int) 0 0 (kPi (mW (zg z) a E) Q)) (h : wX5_part_48 Q l2 σ) : kV z (mW (zg z) a E σ) 0 0 48 [(0, .ref (a 0)), (2, .int l2)] [] := by
  unfold wX5_part_48 at h
  refine g_aload_n F dX5_part_48 0 rfl ?_
  refine rgX5_X5_bad F dX5_part_49 ?_
  refine g_if_ne F dX5_part_52 (tgt := 59) (by decide) (fun c12 => ?_) (fun c12 => ?_)
  · replace h := h.1 c12
    refine g_iload_n F dX5_part_59 1 rfl ?_
    exact g_iret F R rfl rfl dX5_part_60 ⟨_, _, rfl, rfl, h⟩
  replace h := h.2 c12
  refine g_aload_n F dX5_part_55 0 rfl ?_
  refine rX5_X5_next F dX5_part_56 rfl h (fun s13 h => ?_)
  refine g_iload_n F dX5_part_59 1 rfl ?_
  exact g_iret F R rfl rfl dX5_part_60 ⟨_, _, rfl, rfl, h⟩
set_option maxRecDepth 20000 in
theorem sX5_part_34 {z : kZ} {a : Nat → Nat} {E : va_W}  {Q : Int32 → kS → Prop} {ks0 : Int32} {σ : kS} (F : kF z cX5_part RX5 3 { frames := 40, cells := 0, slots := 0, locals := 923 }) (R : kR z (some .int) 0 0 (kPi (mW (zg z) a E) Q)) (h : wX5_part_34 Q ks0 σ) : kV z (mW (zg z) a E σ) 0 0 34 [(0, .ref (a 0))] [.int ks0] := by
  unfold wX5_part_34 at h
  refine g_istore_n (lv' := [(2, .int ks0), (0, .ref (a 0))]) F dX5_part_34 rfl rfl ?_
  refine g_aload_n F dX5_part_35 1 rfl ?_
  refine g_bipush (v := (59 : Int32)) F dX5_part_36 (by decide) ?_
  refine rX5_X5_isSign F dX5_part_38 rfl h (fun r9 s8 h => ?_)
  refine g_if_ne F dX5_part_41 (tgt := 48) (by decide) (fun c10 => ?_) (fun c10 => ?_)
  · replace h := h.1 c10
    exact g_sub [1, 0] rfl (sX5_part_48 F R h)
  replace h := h.2 c10
  refine g_aload_n F dX5_part_44 1 rfl ?_
  refine rX5_X5_fail F dX5_part_45 rfl h (fun s11 h => ?_)
  exact g_sub [1, 0] rfl (sX5_part_48 F R h)
set_option maxRecDepth 20000 in
theorem sX5_part_19 {z : kZ} {a : Nat → Nat} {E : va_W}  {Q : Int32 → kS → Prop} {σ : kS} (F : kF z cX5_part RX5 3 { frames := 40, cells := 0, slots := 0, locals := 923 }) (R : kR z (some .int) 0 0 (kPi (mW (zg z) a E) Q)) (h : wX5_part_19 Q σ) : kV z (mW (zg z) a E σ) 0 0 19 [(0, .ref (a 0))] [] := by
  unfold wX5_part_19 at h
  refine g_aload_n F dX5_part_19 0 rfl ?_
  refine rgX5_X5_bad F dX5_part_20 ?_
  refine g_if_eq F dX5_part_23 (tgt := 30) (by decide) (fun c5 => ?_) (fun c5 => ?_)
  · replace h := h.1 c5
    refine g_aload_n F dX5_part_30 0 rfl ?_
    refine rX5_X5_either0 F dX5_part_31 rfl h (fun r7 s6 h => ?_)
    exact (sX5_part_34 F R h)
  replace h := h.2 c5
  refine g_iconst (v := (0 : Int32)) F dX5_part_26 (by decide) ?_
  refine g_goto F dX5_part_27 (tgt := 34) (by decide) ?_
  exact (sX5_part_34 F R h)
set_option maxRecDepth 20000 in
theorem sX5_part_8 {z : kZ} {a : Nat → Nat} {E : va_W}  {Q : Int32 → kS → Prop} {σ : kS} (F : kF z cX5_part RX5 3 { frames := 40, cells := 0, slots := 0, locals := 923 }) (R : kR z (some .int) 0 0 (kPi (mW (zg z) a E) Q)) (h : wX5_part_8 Q σ) : kV z (mW (zg z) a E σ) 0 0 8 [(0, .ref (a 0))] [] := by
  unfold wX5_part_8 at h
  refine g_aload_n F dX5_part_8 0 rfl ?_
  refine rgX5_X5_bad F dX5_part_9 ?_
  refine g_if_ne F dX5_part_12 (tgt := 19) (by decide) (fun c3 => ?_) (fun c3 => ?_)
  · replace h := h.1 c3
    exact (sX5_part_19 F R h)
  replace h := h.2 c3
  refine g_aload_n F dX5_part_15 0 rfl ?_
  refine rX5_X5_next F dX5_part_16 rfl h (fun s4 h => ?_)
  exact (sX5_part_19 F R h)
set_option maxRecDepth 20000 in
theorem ctX5_part (l : Launch) (g : kG) (A : Nat → Prop) (a : Nat → Nat) (E : va_W) {l1 : Int32} {σ : kS} {Q : Int32 → kS → Prop} (h : wX5_part l1 σ Q) : kCt l yX5_part cX5_part 3 (some .int) 40 923 0 0 g A [.ref (a 0), .int l1] (mW g a E σ) (kPi (mW g a E) Q) := by
  refine kCt.of (lv0 := [(0, .ref (a 0)), (1, .int l1)]) (by decide +kernel) (Nat.le_of_ble_eq_true rfl) rfl (fun z hl hg hA F R => ?_)
  subst hl hg hA
  have F : kF z cX5_part RX5 3 { frames := 40, cells := 0, slots := 0, locals := 923 } := F
  unfold wX5_part at h
  refine g_iload_n F dX5_part_0 1 rfl ?_
  refine g_if_ne F dX5_part_1 (tgt := 8) (by decide) (fun c1 => ?_) (fun c1 => ?_)
  · replace h := h.1 c1
    exact g_sub [0] rfl (sX5_part_8 F R h)
  replace h := h.2 c1
  refine g_aload_n F dX5_part_4 0 rfl ?_
  refine rX5_X5_fail F dX5_part_5 rfl h (fun s2 h => ?_)
  exact g_sub [0] rfl (sX5_part_8 F R h)
theorem plX5_part : kPlain yX5_part 1 = true := by decide +kernel
theorem rX5_X5_part {z : kZ} {cc : ByteArray} {nL : Nat} {rm : Room} {c n pc : Nat} {lv : List (Nat × Value)} {st : List Value} {a : Nat → Nat} {E : va_W} {σ : kS} {l1 : Int32} {Q : Int32 → kS → Prop} (F : kF z cc RX5 nL rm) (hd : decode cc pc = .ok (.invokevirtual 327, 3)) (hf : kFits rm 40 923 0 0 3 c n st = true) (h : wX5_part l1 σ Q) (k : ∀ (v : Int32) (σ' : kS), Q v σ' → kV z (mW (zg z) a E σ') c n (pc + 3) lv (.int v :: st)) : kV z (mW (zg z) a E σ) c n pc lv (.int l1 :: .ref (a 0) :: st) := by
  exact g_callV F (av := [.int l1]) (ctX5_part _ _ _ a E h) (ci := 5) (q0 := 0) rfl rfl rfl wq1017 wq1019 wq51 wq114 wq1020 plX5_part hd hf (fun r ws' hq => by
    obtain ⟨v, σ', rfl, rfl, hq⟩ := hq
    exact k v σ' hq)
set_option maxRecDepth 20000 in
theorem sX5_read_148 {z : kZ} {a : Nat → Nat} {E : va_W}  {Q : Int32 → kS → Prop} {l2 : Int32} {l3 : Int32} {l4 : Int32} {l5 : Int32} {σ : kS} (F : kF z cX5_read RX5 6 { frames := 41, cells := 0, slots := 0, locals := 945 }) (R : kR z (some .int) 0 0 (kPi (mW (zg z) a E) Q)) (h : wX5_read_148 Q l2 l3 l4 l5 σ) : kV z (mW (zg z) a E σ) 0 0 148 [(2, .int l2), (3, .int l3), (4, .int l4), (5, .int l5)] [] := by
  unfold wX5_read_148 at h
  refine g_iload_n F dX5_read_148 0 rfl ?_
  refine g_if_ne F dX5_read_149 (tgt := 156) (by decide) (fun c24 => ?_) (fun c24 => ?_)
  · replace h := h.1 c24
    refine g_iload_n F dX5_read_156 0 rfl ?_
    refine g_iconst (v := (1 : Int32)) F dX5_read_157 (by decide) ?_
    refine g_icmp_ne F dX5_read_158 (tgt := 166) (by decide) (fun c25 => ?_) (fun c25 => ?_)
    · replace h := h.1 c25
      refine g_iload F dX5_read_166 3 rfl ?_
      exact g_iret F R rfl rfl dX5_read_168 ⟨_, _, rfl, rfl, h⟩
    replace h := h.2 c25
    refine g_iload F dX5_read_161 2 rfl ?_
    refine g_goto F dX5_read_163 (tgt := 168) (by decide) ?_
    exact g_iret F R rfl rfl dX5_read_168 ⟨_, _, rfl, rfl, h⟩
  replace h := h.2 c24
  refine g_iload_n F dX5_read_152 1 rfl ?_
  refine g_goto F dX5_read_153 (tgt := 168) (by decide) ?_
  exact g_iret F R rfl rfl dX5_read_168 ⟨_, _, rfl, rfl, h⟩
set_option maxRecDepth 20000 in
theorem sX5_read_128 {z : kZ} {a : Nat → Nat} {E : va_W}  {Q : Int32 → kS → Prop} {l2 : Int32} {l3 : Int32} {l4 : Int32} {ks0 : Int32} {σ : kS} (F : kF z cX5_read RX5 6 { frames := 41, cells := 0, slots := 0, locals := 945 }) (R : kR z (some .int) 0 0 (kPi (mW (zg z) a E) Q)) (h : wX5_read_128 Q l2 l3 l4 ks0 σ) : kV z (mW (zg z) a E σ) 0 0 128 [(0, .ref (a 0)), (2, .int l2), (3, .int l3), (4, .int l4)] [.int ks0] := by
  unfold wX5_read_128 at h
  refine g_istore (lv' := [(5, .int ks0), (0, .ref (a 0)), (2, .int l2), (3, .int l3), (4, .int l4)]) F dX5_read_128 rfl rfl ?_
  refine g_aload_n F dX5_read_130 1 rfl ?_
  refine rgX5_X5_bad F dX5_read_131 ?_
  refine g_if_ne F dX5_read_134 (tgt := 148) (by decide) (fun c21 => ?_) (fun c21 => ?_)
  · replace h := h.1 c21
    exact g_sub [2, 3, 4, 0] rfl (sX5_read_148 F R h)
  replace h := h.2 c21
  refine g_aload_n F dX5_read_137 1 rfl ?_
  refine rgX5_X5_token F dX5_read_138 ?_
  refine g_if_eq F dX5_read_141 (tgt := 148) (by decide) (fun c22 => ?_) (fun c22 => ?_)
  · replace h := h.1 c22
    exact g_sub [2, 3, 4, 0] rfl (sX5_read_148 F R h)
  replace h := h.2 c22
  refine g_aload_n F dX5_read_144 1 rfl ?_
  refine rX5_X5_fail F dX5_read_145 rfl h (fun s23 h => ?_)
  exact g_sub [2, 3, 4, 0] rfl (sX5_read_148 F R h)
set_option maxRecDepth 20000 in
theorem sX5_read_94 {z : kZ} {a : Nat → Nat} {E : va_W}  {Q : Int32 → kS → Prop} {l2 : Int32} {l3 : Int32} {ks0 : Int32} {σ : kS} (F : kF z cX5_read RX5 6 { frames := 41, cells := 0, slots := 0, locals := 945 }) (R : kR z (some .int) 0 0 (kPi (mW (zg z) a E) Q)) (h : wX5_read_94 Q l2 l3 ks0 σ) : kV z (mW (zg z) a E σ) 0 0 94 [(0, .ref (a 0)), (2, .int l2), (3, .int l3)] [.int ks0] := by
  unfold wX5_read_94 at h
  refine g_istore (lv' := [(4, .int ks0), (0, .ref (a 0)), (2, .int l2), (3, .int l3)]) F dX5_read_94 rfl rfl ?_
  refine g_aload_n F dX5_read_96 1 rfl ?_
  refine rgX5_X5_bad F dX5_read_97 ?_
  refine g_if_eq F dX5_read_100 (tgt := 107) (by decide) (fun c16 => ?_) (fun c16 => ?_)
  · replace h := h.1 c16
    refine g_aload_n F dX5_read_107 1 rfl ?_
    refine g_aload_n F dX5_read_108 1 rfl ?_
    refine g_bipush (v := (99 : Int32)) F dX5_read_109 (by decide) ?_
    refine g_bipush (v := (97 : Int32)) F dX5_read_111 (by decide) ?_
    refine g_bipush (v := (108 : Int32)) F dX5_read_113 (by decide) ?_
    refine g_bipush (v := (108 : Int32)) F dX5_read_115 (by decide) ?_
    refine g_bipush (v := (115 : Int32)) F dX5_read_117 (by decide) ?_
    refine g_iconst (v := (0 : Int32)) F dX5_read_119 (by decide) ?_
    refine g_iconst (v := (0 : Int32)) F dX5_read_120 (by decide) ?_
    refine g_iconst (v := (0 : Int32)) F dX5_read_121 (by decide) ?_
    refine rX5_X5_isWord F dX5_read_122 rfl h (fun r18 s17 h => ?_)
    refine rX5_X5_part F dX5_read_125 rfl h (fun r20 s19 h => ?_)
    exact g_sub [1, 2, 3, 0] rfl (sX5_read_128 F R h)
  replace h := h.2 c16
  refine g_iconst (v := (0 : Int32)) F dX5_read_103 (by decide) ?_
  refine g_goto F dX5_read_104 (tgt := 128) (by decide) ?_
  exact g_sub [1, 2, 3, 0] rfl (sX5_read_128 F R h)
set_option maxRecDepth 20000 in
theorem ctX5_read (l : Launch) (g : kG) (A : Nat → Prop) (a : Nat → Nat) (E : va_W) {l1 : Int32} {l2 : Int32} {σ : kS} {Q : Int32 → kS → Prop} (h : wX5_read l1 l2 σ Q) : kCt l yX5_read cX5_read 6 (some .int) 41 945 0 0 g A [.ref (a 0), .int l1, .int l2] (mW g a E σ) (kPi (mW g a E) Q) := by
  refine kCt.of (lv0 := [(0, .ref (a 0)), (1, .int l1), (2, .int l2)]) (by decide +kernel) (Nat.le_of_ble_eq_true rfl) rfl (fun z hl hg hA F R => ?_)
  subst hl hg hA
  have F : kF z cX5_read RX5 6 { frames := 41, cells := 0, slots := 0, locals := 945 } := F
  unfold wX5_read at h
  refine g_aload_n F dX5_read_0 0 rfl ?_
  refine g_sipush (v := (160 : Int32)) F dX5_read_1 (by decide) ?_
  refine g_iload_n F dX5_read_4 1 rfl ?_
  refine g_imul F dX5_read_5 ?_
  refine rpX5_X5_from F dX5_read_6 ?_
  refine g_name (wf := mW (zg z) a E) (fun s1 es1 => ?_)
  replace h := h s1 es1
  refine g_aload_n F dX5_read_9 0 rfl ?_
  refine g_aload_n F dX5_read_10 0 rfl ?_
  refine rgX5_X5_textSize F dX5_read_11 ?_
  refine g_iload_n F dX5_read_14 1 rfl ?_
  obtain ⟨hc, h⟩ := h
  refine g_iald (wf := mW (zg z) a E) F mA2 hc dX5_read_15 ?_
  refine rpX5_X5_size F dX5_read_16 ?_
  refine g_name (wf := mW (zg z) a E) (fun s2 es2 => ?_)
  replace h := h s2 es2
  refine g_aload_n F dX5_read_19 0 rfl ?_
  refine g_iconst (v := (0 : Int32)) F dX5_read_20 (by decide) ?_
  refine rpX5_X5_here F dX5_read_21 ?_
  refine g_name (wf := mW (zg z) a E) (fun s3 es3 => ?_)
  replace h := h s3 es3
  refine g_aload_n F dX5_read_24 0 rfl ?_
  refine g_iconst (v := (0 : Int32)) F dX5_read_25 (by decide) ?_
  refine rpX5_X5_open F dX5_read_26 ?_
  refine g_name (wf := mW (zg z) a E) (fun s4 es4 => ?_)
  replace h := h s4 es4
  refine g_aload_n F dX5_read_29 0 rfl ?_
  refine g_iconst (v := (0 : Int32)) F dX5_read_30 (by decide) ?_
  refine rpX5_X5_bad F (by decide) dX5_read_31 ?_
  refine g_name (wf := mW (zg z) a E) (fun s5 es5 => ?_)
  replace h := h s5 es5
  refine g_aload_n F dX5_read_34 0 rfl ?_
  refine rX5_X5_next F dX5_read_35 rfl h (fun s6 h => ?_)
  refine g_aload_n F dX5_read_38 0 rfl ?_
  refine g_aload_n F dX5_read_39 0 rfl ?_
  refine g_bipush (v := (114 : Int32)) F dX5_read_40 (by decide) ?_
  refine g_bipush (v := (97 : Int32)) F dX5_read_42 (by decide) ?_
  refine g_bipush (v := (105 : Int32)) F dX5_read_44 (by decide) ?_
  refine g_bipush (v := (110 : Int32)) F dX5_read_46 (by decide) ?_
  refine g_bipush (v := (115 : Int32)) F dX5_read_48 (by decide) ?_
  refine g_iconst (v := (0 : Int32)) F dX5_read_50 (by decide) ?_
  refine g_iconst (v := (0 : Int32)) F dX5_read_51 (by decide) ?_
  refine g_iconst (v := (0 : Int32)) F dX5_read_52 (by decide) ?_
  refine rX5_X5_isWord F dX5_read_53 rfl h (fun r8 s7 h => ?_)
  refine rX5_X5_part F dX5_read_56 rfl h (fun r10 s9 h => ?_)
  refine g_istore_n (lv' := [(3, .int r10), (0, .ref (a 0)), (1, .int l1), (2, .int l2)]) F dX5_read_59 rfl rfl ?_
  refine g_aload_n F dX5_read_60 1 rfl ?_
  refine rgX5_X5_bad F dX5_read_61 ?_
  refine g_if_eq F dX5_read_64 (tgt := 71) (by decide) (fun c11 => ?_) (fun c11 => ?_)
  · replace h := h.1 c11
    refine g_aload_n F dX5_read_71 1 rfl ?_
    refine g_aload_n F dX5_read_72 1 rfl ?_
    refine g_bipush (v := (115 : Int32)) F dX5_read_73 (by decide) ?_
    refine g_bipush (v := (104 : Int32)) F dX5_read_75 (by decide) ?_
    refine g_bipush (v := (114 : Int32)) F dX5_read_77 (by decide) ?_
    refine g_bipush (v := (105 : Int32)) F dX5_read_79 (by decide) ?_
    refine g_bipush (v := (110 : Int32)) F dX5_read_81 (by decide) ?_
    refine g_bipush (v := (107 : Int32)) F dX5_read_83 (by decide) ?_
    refine g_bipush (v := (115 : Int32)) F dX5_read_85 (by decide) ?_
    refine g_iconst (v := (0 : Int32)) F dX5_read_87 (by decide) ?_
    refine rX5_X5_isWord F dX5_read_88 rfl h (fun r13 s12 h => ?_)
    refine rX5_X5_part F dX5_read_91 rfl h (fun r15 s14 h => ?_)
    exact g_sub [1, 3, 0] rfl (sX5_read_94 F R h)
  replace h := h.2 c11
  refine g_iconst (v := (0 : Int32)) F dX5_read_67 (by decide) ?_
  refine g_goto F dX5_read_68 (tgt := 94) (by decide) ?_
  exact g_sub [1, 3, 0] rfl (sX5_read_94 F R h)
theorem plX5_read : kPlain yX5_read 2 = true := by decide +kernel
theorem rX5_X5_read {z : kZ} {cc : ByteArray} {nL : Nat} {rm : Room} {c n pc : Nat} {lv : List (Nat × Value)} {st : List Value} {a : Nat → Nat} {E : va_W} {σ : kS} {l1 : Int32} {l2 : Int32} {Q : Int32 → kS → Prop} (F : kF z cc RX5 nL rm) (hd : decode cc pc = .ok (.invokevirtual 331, 3)) (hf : kFits rm 41 945 0 0 6 c n st = true) (h : wX5_read l1 l2 σ Q) (k : ∀ (v : Int32) (σ' : kS), Q v σ' → kV z (mW (zg z) a E σ') c n (pc + 3) lv (.int v :: st)) : kV z (mW (zg z) a E σ) c n pc lv (.int l2 :: .int l1 :: .ref (a 0) :: st) := by
  exact g_callV F (av := [.int l1, .int l2]) (ctX5_read _ _ _ a E h) (ci := 5) (q0 := 0) rfl rfl rfl wq993 wq995 wq46 wq114 wq996 plX5_read hd hf (fun r ws' hq => by
    obtain ⟨v, σ', rfl, rfl, hq⟩ := hq
    exact k v σ' hq)
theorem plX5_within : kPlain yX5_within 3 = true := by decide +kernel
theorem rX5_X5_within {z : kZ} {cc : ByteArray} {nL : Nat} {rm : Room} {c n pc : Nat} {lv : List (Nat × Value)} {st : List Value} {ws : va_W} {l0 : Int32} {l1 : Int32} {l2 : Int32} {Q : Int32 → Prop} (F : kF z cc RX5 nL rm) (hd : decode cc pc = .ok (.invokestatic 334, 3)) (hf : kFits rm 0 40 0 0 3 c n st = true) (h : wX5_within l0 l1 l2 Q) (k : ∀ v : Int32, Q v → kV z ws c n (pc + 3) lv (.int v :: st)) : kV z ws c n pc lv (.int l2 :: .int l1 :: .int l0 :: st) := g_callS F (av := [.int l0, .int l1, .int l2]) (ctX5_within _ _ _ ws h) wq1183 wq1184 wq114 wq1185 plX5_within hd hf (fun r ws' hq => by
    obtain ⟨v, rfl, rfl, hq⟩ := hq
    exact k v hq)
set_option maxRecDepth 20000 in
theorem sX5_says_80 {z : kZ} {a : Nat → Nat} {E : va_W}  {Q : Int32 → kS → Prop} {ks0 : Int32} {ks1 : Int32} {ks2 : Int32} {σ : kS} (F : kF z cX5_says RX5 4 { frames := 42, cells := 0, slots := 0, locals := 970 }) (R : kR z (some .int) 0 0 (kPi (mW (zg z) a E) Q)) (h : wX5_says_80 Q ks0 ks1 ks2 σ) : kV z (mW (zg z) a E σ) 0 0 80 [] [.int ks0, .int ks1, .int ks2] := by
  unfold wX5_says_80 at h
  refine rX5_X5_within F dX5_says_80 rfl h (fun r10 h => ?_)
  exact g_iret F R rfl rfl dX5_says_83 ⟨_, _, rfl, rfl, h⟩
set_option maxRecDepth 20000 in
theorem ctX5_says (l : Launch) (g : kG) (A : Nat → Prop) (a : Nat → Nat) (E : va_W) {l1 : Int32} {l2 : Int32} {l3 : Int32} {σ : kS} {Q : Int32 → kS → Prop} (h : wX5_says l1 l2 l3 σ Q) : kCt l yX5_says cX5_says 4 (some .int) 42 970 0 0 g A [.ref (a 0), .int l1, .int l2, .int l3] (mW g a E σ) (kPi (mW g a E) Q) := by
  refine kCt.of (lv0 := [(0, .ref (a 0)), (1, .int l1), (2, .int l2), (3, .int l3)]) (by decide +kernel) (Nat.le_of_ble_eq_true rfl) rfl (fun z hl hg hA F R => ?_)
  subst hl hg hA
  have F : kF z cX5_says RX5 4 { frames := 42, cells := 0, slots := 0, locals := 970 } := F
  unfold wX5_says at h
  refine g_aload_n F dX5_says_0 0 rfl ?_
  refine g_aload_n F dX5_says_1 0 rfl ?_
  refine rgX5_X5_fen F dX5_says_2 ?_
  refine g_iconst (v := (3 : Int32)) F dX5_says_5 (by decide) ?_
  refine g_iload_n F dX5_says_6 2 rfl ?_
  refine g_imul F dX5_says_7 ?_
  obtain ⟨hc, h⟩ := h
  refine g_iald (wf := mW (zg z) a E) F mA4 hc dX5_says_8 ?_
  refine rpX5_X5_ofHeight F dX5_says_9 ?_
  refine g_name (wf := mW (zg z) a E) (fun s1 es1 => ?_)
  replace h := h s1 es1
  refine g_aload_n F dX5_says_12 0 rfl ?_
  refine g_aload_n F dX5_says_13 0 rfl ?_
  refine rgX5_X5_fen F dX5_says_14 ?_
  refine g_iconst (v := (3 : Int32)) F dX5_says_17 (by decide) ?_
  refine g_iload_n F dX5_says_18 2 rfl ?_
  refine g_imul F dX5_says_19 ?_
  refine g_iconst (v := (1 : Int32)) F dX5_says_20 (by decide) ?_
  refine g_iadd F dX5_says_21 ?_
  obtain ⟨hc, h⟩ := h
  refine g_iald (wf := mW (zg z) a E) F mA4 hc dX5_says_22 ?_
  refine rpX5_X5_ofPeat F dX5_says_23 ?_
  refine g_name (wf := mW (zg z) a E) (fun s2 es2 => ?_)
  replace h := h s2 es2
  refine g_aload_n F dX5_says_26 0 rfl ?_
  refine g_aload_n F dX5_says_27 0 rfl ?_
  refine rgX5_X5_yearNow F dX5_says_28 ?_
  refine rpX5_X5_ofYear F dX5_says_31 ?_
  refine g_name (wf := mW (zg z) a E) (fun s3 es3 => ?_)
  replace h := h s3 es3
  refine g_aload_n F dX5_says_34 0 rfl ?_
  refine g_iload_n F dX5_says_35 3 rfl ?_
  refine rpX5_X5_ofNumber F dX5_says_36 ?_
  refine g_name (wf := mW (zg z) a E) (fun s4 es4 => ?_)
  replace h := h s4 es4
  refine g_aload_n F dX5_says_39 0 rfl ?_
  refine g_aload_n F dX5_says_40 0 rfl ?_
  refine rgX5_X5_fen F dX5_says_41 ?_
  refine g_iconst (v := (3 : Int32)) F dX5_says_44 (by decide) ?_
  refine g_iload_n F dX5_says_45 2 rfl ?_
  refine g_imul F dX5_says_46 ?_
  refine g_iconst (v := (2 : Int32)) F dX5_says_47 (by decide) ?_
  refine g_iadd F dX5_says_48 ?_
  obtain ⟨hc, h⟩ := h
  refine g_iald (wf := mW (zg z) a E) F mA4 hc dX5_says_49 ?_
  refine rpX5_X5_ofWater F dX5_says_50 ?_
  refine g_name (wf := mW (zg z) a E) (fun s5 es5 => ?_)
  replace h := h s5 es5
  refine g_aload_n F dX5_says_53 0 rfl ?_
  refine g_iload_n F dX5_says_54 2 rfl ?_
  refine rpX5_X5_ofCell F dX5_says_55 ?_
  refine g_name (wf := mW (zg z) a E) (fun s6 es6 => ?_)
  replace h := h s6 es6
  refine g_aload_n F dX5_says_58 0 rfl ?_
  refine g_aload_n F dX5_says_59 0 rfl ?_
  refine rgX5_X5_rule F dX5_says_60 ?_
  refine g_iload_n F dX5_says_63 1 rfl ?_
  refine rX5_X5_read F dX5_says_64 rfl h (fun r8 s7 h => ?_)
  refine g_iconst (v := (0 : Int32)) F dX5_says_67 (by decide) ?_
  refine g_iload_n F dX5_says_68 1 rfl ?_
  refine g_iconst (v := (1 : Int32)) F dX5_says_69 (by decide) ?_
  refine g_icmp_ne F dX5_says_70 (tgt := 78) (by decide) (fun c9 => ?_) (fun c9 => ?_)
  · replace h := h.1 c9
    refine g_bipush (v := (99 : Int32)) F dX5_says_78 (by decide) ?_
    exact g_sub [] rfl (sX5_says_80 F R h)
  replace h := h.2 c9
  refine g_bipush (v := (20 : Int32)) F dX5_says_73 (by decide) ?_
  refine g_goto F dX5_says_75 (tgt := 80) (by decide) ?_
  exact g_sub [] rfl (sX5_says_80 F R h)
theorem plX5_says : kPlain yX5_says 3 = true := by decide +kernel
theorem rX5_X5_says {z : kZ} {cc : ByteArray} {nL : Nat} {rm : Room} {c n pc : Nat} {lv : List (Nat × Value)} {st : List Value} {a : Nat → Nat} {E : va_W} {σ : kS} {l1 : Int32} {l2 : Int32} {l3 : Int32} {Q : Int32 → kS → Prop} (F : kF z cc RX5 nL rm) (hd : decode cc pc = .ok (.invokevirtual 341, 3)) (hf : kFits rm 42 970 0 0 4 c n st = true) (h : wX5_says l1 l2 l3 σ Q) (k : ∀ (v : Int32) (σ' : kS), Q v σ' → kV z (mW (zg z) a E σ') c n (pc + 3) lv (.int v :: st)) : kV z (mW (zg z) a E σ) c n pc lv (.int l3 :: .int l2 :: .int l1 :: .ref (a 0) :: st) := by
  exact g_callV F (av := [.int l1, .int l2, .int l3]) (ctX5_says _ _ _ a E h) (ci := 5) (q0 := 0) rfl rfl rfl wq989 wq991 wq45 wq114 wq992 plX5_says hd hf (fun r ws' hq => by
    obtain ⟨v, σ', rfl, rfl, hq⟩ := hq
    exact k v σ' hq)
set_option maxRecDepth 20000 in
theorem ctX5_costsOf (l : Launch) (g : kG) (A : Nat → Prop) (a : Nat → Nat) (E : va_W) {l1 : Int32} {σ : kS} {Q : Int32 → kS → Prop} (h : wX5_costsOf l1 σ Q) : kCt l yX5_costsOf cX5_costsOf 5 (some .int) 43 993 0 0 g A [.ref (a 0), .int l1] (mW g a E σ) (kPi (mW g a E) Q) := by
  refine kCt.of (lv0 := [(0, .ref (a 0)), (1, .int l1)]) (by decide +kernel) (Nat.le_of_ble_eq_true rfl) rfl (fun z hl hg hA F R => ?_)
  subst hl hg hA
  have F : kF z cX5_costsOf RX5 5 { frames := 43, cells := 0, slots := 0, locals := 993 } := F
  unfold wX5_costsOf at h
  refine g_aload_n F dX5_costsOf_0 0 rfl ?_
  refine rgX5_X5_kinds F dX5_costsOf_1 ?_
  refine g_iload_n F dX5_costsOf_4 1 rfl ?_
  obtain ⟨hc, h⟩ := h
  refine g_iald (wf := mW (zg z) a E) F mA5 hc dX5_costsOf_5 ?_
  refine g_topi (fun x1 ex1 => ?_)
  replace h := h x1 ex1
  refine g_istore_n (lv' := [(2, .int x1), (0, .ref (a 0)), (1, .int l1)]) F dX5_costsOf_6 rfl rfl ?_
  refine g_aload_n F dX5_costsOf_7 1 rfl ?_
  refine rgX5_X5_rows F dX5_costsOf_8 ?_
  refine g_iconst (v := (3 : Int32)) F dX5_costsOf_11 (by decide) ?_
  refine g_iload_n F dX5_costsOf_12 2 rfl ?_
  refine g_imul F dX5_costsOf_13 ?_
  obtain ⟨hc, h⟩ := h
  refine g_iald (wf := mW (zg z) a E) F mA6 hc dX5_costsOf_14 ?_
  refine g_topi (fun x2 ex2 => ?_)
  replace h := h x2 ex2
  refine g_istore_n (lv' := [(3, .int x2), (2, .int x1), (0, .ref (a 0)), (1, .int l1)]) F dX5_costsOf_15 rfl rfl ?_
  refine g_aload_n F dX5_costsOf_16 2 rfl ?_
  refine g_iconst (v := (2 : Int32)) F dX5_costsOf_17 (by decide) ?_
  refine g_aload_n F dX5_costsOf_18 2 rfl ?_
  refine rgX5_X5_rows F dX5_costsOf_19 ?_
  refine g_iconst (v := (3 : Int32)) F dX5_costsOf_22 (by decide) ?_
  refine g_iload_n F dX5_costsOf_23 3 rfl ?_
  refine g_imul F dX5_costsOf_24 ?_
  refine g_iconst (v := (1 : Int32)) F dX5_costsOf_25 (by decide) ?_
  refine g_iadd F dX5_costsOf_26 ?_
  obtain ⟨hc, h⟩ := h
  refine g_iald (wf := mW (zg z) a E) F mA6 hc dX5_costsOf_27 ?_
  refine g_iload_n F dX5_costsOf_28 0 rfl ?_
  refine rX5_X5_says F dX5_costsOf_29 rfl h (fun r4 s3 h => ?_)
  refine g_istore (lv' := [(4, .int r4), (3, .int x2), (2, .int x1), (0, .ref (a 0)), (1, .int l1)]) F dX5_costsOf_32 rfl rfl ?_
  refine g_iload_n F dX5_costsOf_34 2 rfl ?_
  refine g_iconst (v := (1 : Int32)) F dX5_costsOf_35 (by decide) ?_
  refine g_icmp_ne F dX5_costsOf_36 (tgt := 46) (by decide) (fun c5 => ?_) (fun c5 => ?_)
  · replace h := h.1 c5
    refine g_iload_n F dX5_costsOf_46 2 rfl ?_
    refine g_iconst (v := (3 : Int32)) F dX5_costsOf_47 (by decide) ?_
    refine g_icmp_ne F dX5_costsOf_48 (tgt := 60) (by decide) (fun c6 => ?_) (fun c6 => ?_)
    · replace h := h.1 c6
      refine g_iload_n F dX5_costsOf_60 2 rfl ?_
      refine g_iconst (v := (2 : Int32)) F dX5_costsOf_61 (by decide) ?_
      refine g_icmp_ne F dX5_costsOf_62 (tgt := 72) (by decide) (fun c7 => ?_) (fun c7 => ?_)
      · replace h := h.1 c7
        refine g_iload_n F dX5_costsOf_72 2 rfl ?_
        refine g_iconst (v := (4 : Int32)) F dX5_costsOf_73 (by decide) ?_
        refine g_icmp_ne F dX5_costsOf_74 (tgt := 86) (by decide) (fun c8 => ?_) (fun c8 => ?_)
        · replace h := h.1 c8
          refine g_iload F dX5_costsOf_86 0 rfl ?_
          exact g_iret F R rfl rfl dX5_costsOf_88 ⟨_, _, rfl, rfl, h⟩
        replace h := h.2 c8
        refine g_iconst (v := (2 : Int32)) F dX5_costsOf_77 (by decide) ?_
        refine g_iload F dX5_costsOf_78 0 rfl ?_
        refine g_imul F dX5_costsOf_80 ?_
        refine g_iload_n F dX5_costsOf_81 1 rfl ?_
        refine g_iadd F dX5_costsOf_82 ?_
        refine g_goto F dX5_costsOf_83 (tgt := 88) (by decide) ?_
        exact g_iret F R rfl rfl dX5_costsOf_88 ⟨_, _, rfl, rfl, h⟩
      replace h := h.2 c7
      refine g_iconst (v := (2 : Int32)) F dX5_costsOf_65 (by decide) ?_
      refine g_iload F dX5_costsOf_66 0 rfl ?_
      refine g_imul F dX5_costsOf_68 ?_
      refine g_goto F dX5_costsOf_69 (tgt := 88) (by decide) ?_
      exact g_iret F R rfl rfl dX5_costsOf_88 ⟨_, _, rfl, rfl, h⟩
    replace h := h.2 c6
    refine g_iload F dX5_costsOf_51 0 rfl ?_
    refine g_iconst (v := (2 : Int32)) F dX5_costsOf_53 (by decide) ?_
    refine g_idiv F dX5_costsOf_54 (by decide) ?_
    refine g_iload_n F dX5_costsOf_55 1 rfl ?_
    refine g_iadd F dX5_costsOf_56 ?_
    refine g_goto F dX5_costsOf_57 (tgt := 88) (by decide) ?_
    exact g_iret F R rfl rfl dX5_costsOf_88 ⟨_, _, rfl, rfl, h⟩
  replace h := h.2 c5
  refine g_iload F dX5_costsOf_39 0 rfl ?_
  refine g_iconst (v := (2 : Int32)) F dX5_costsOf_41 (by decide) ?_
  refine g_idiv F dX5_costsOf_42 (by decide) ?_
  refine g_goto F dX5_costsOf_43 (tgt := 88) (by decide) ?_
  exact g_iret F R rfl rfl dX5_costsOf_88 ⟨_, _, rfl, rfl, h⟩
theorem plX5_isOf : kPlain yX5_isOf 2 = true := by decide +kernel
theorem rX5_X5_isOf {z : kZ} {cc : ByteArray} {nL : Nat} {rm : Room} {c n pc : Nat} {lv : List (Nat × Value)} {st : List Value} {a : Nat → Nat} {E : va_W} {σ : kS} {l1 : Int32} {l2 : Int32} {Q : Int32 → kS → Prop} (F : kF z cc RX5 nL rm) (hd : decode cc pc = .ok (.invokevirtual 91, 3)) (hf : kFits rm 2 86 0 0 3 c n st = true) (h : wX5_isOf l1 l2 σ Q) (k : ∀ (v : Int32) (σ' : kS), Q v σ' → kV z (mW (zg z) a E σ') c n (pc + 3) lv (.int v :: st)) : kV z (mW (zg z) a E σ) c n pc lv (.int l2 :: .int l1 :: .ref (a 0) :: st) := by
  exact g_callV F (av := [.int l1, .int l2]) (ctX5_isOf _ _ _ a E h) (ci := 5) (q0 := 0) rfl rfl rfl wq961 wq963 wq41 wq114 wq964 plX5_isOf hd hf (fun r ws' hq => by
    obtain ⟨v, σ', rfl, rfl, hq⟩ := hq
    exact k v σ' hq)
theorem plX5_costsOf : kPlain yX5_costsOf 1 = true := by decide +kernel
theorem rX5_X5_costsOf {z : kZ} {cc : ByteArray} {nL : Nat} {rm : Room} {c n pc : Nat} {lv : List (Nat × Value)} {st : List Value} {a : Nat → Nat} {E : va_W} {σ : kS} {l1 : Int32} {Q : Int32 → kS → Prop} (F : kF z cc RX5 nL rm) (hd : decode cc pc = .ok (.invokevirtual 125, 3)) (hf : kFits rm 43 993 0 0 5 c n st = true) (h : wX5_costsOf l1 σ Q) (k : ∀ (v : Int32) (σ' : kS), Q v σ' → kV z (mW (zg z) a E σ') c n (pc + 3) lv (.int v :: st)) : kV z (mW (zg z) a E σ) c n pc lv (.int l1 :: .ref (a 0) :: st) := by
  exact g_callV F (av := [.int l1]) (ctX5_costsOf _ _ _ a E h) (ci := 5) (q0 := 0) rfl rfl rfl wq985 wq987 wq44 wq114 wq988 plX5_costsOf hd hf (fun r ws' hq => by
    obtain ⟨v, σ', rfl, rfl, hq⟩ := hq
    exact k v σ' hq)
theorem plX5_drawsOf : kPlain yX5_drawsOf 2 = true := by decide +kernel
theorem rX5_X5_drawsOf {z : kZ} {cc : ByteArray} {nL : Nat} {rm : Room} {c n pc : Nat} {lv : List (Nat × Value)} {st : List Value} {a : Nat → Nat} {E : va_W} {σ : kS} {l1 : Int32} {l2 : Int32} {Q : Int32 → kS → Prop} (F : kF z cc RX5 nL rm) (hd : decode cc pc = .ok (.invokevirtual 122, 3)) (hf : kFits rm 0 40 0 0 7 c n st = true) (h : wX5_drawsOf l1 l2 σ Q) (k : ∀ (v : Int32) (σ' : kS), Q v σ' → kV z (mW (zg z) a E σ') c n (pc + 3) lv (.int v :: st)) : kV z (mW (zg z) a E σ) c n pc lv (.int l2 :: .int l1 :: .ref (a 0) :: st) := by
  exact g_callV F (av := [.int l1, .int l2]) (ctX5_drawsOf _ _ _ a E h) (ci := 5) (q0 := 0) rfl rfl rfl wq981 wq983 wq43 wq114 wq984 plX5_drawsOf hd hf (fun r ws' hq => by
    obtain ⟨v, σ', rfl, rfl, hq⟩ := hq
    exact k v σ' hq)
set_option maxRecDepth 20000 in
theorem ctX5_told (l : Launch) (g : kG) (A : Nat → Prop) (a : Nat → Nat) (E : va_W) {l1 : Int32} {l2 : Int32} {σ : kS} {Q : Int32 → kS → Prop} (h : wX5_told l1 l2 σ Q) : kCt l yX5_told cX5_told 3 (some .int) 44 1017 0 0 g A [.ref (a 0), .int l1, .int l2] (mW g a E σ) (kPi (mW g a E) Q) := by
  refine kCt.of (lv0 := [(0, .ref (a 0)), (1, .int l1), (2, .int l2)]) (by decide +kernel) (Nat.le_of_ble_eq_true rfl) rfl (fun z hl hg hA F R => ?_)
  subst hl hg hA
  have F : kF z cX5_told RX5 3 { frames := 44, cells := 0, slots := 0, locals := 1017 } := F
  unfold wX5_told at h
  refine g_iload_n F dX5_told_0 2 rfl ?_
  refine g_i2l F dX5_told_1 ?_
  refine g_lconst (v := (0 : Int64)) F dX5_told_2 (by decide) ?_
  refine g_ldc2 (v := (10 : Int64)) F dX5_told_3 wq980 ?_
  refine rX5_X5_in F dX5_told_6 rfl h (fun r1 h => ?_)
  refine g_if_eq F dX5_told_9 (tgt := 21) (by decide) (fun c2 => ?_) (fun c2 => ?_)
  · replace h := h.1 c2
    refine g_bipush (v := (-2 : Int32)) F dX5_told_21 (by decide) ?_
    exact g_iret F R rfl rfl dX5_told_23 ⟨_, _, rfl, rfl, h⟩
  replace h := h.2 c2
  refine g_aload_n F dX5_told_12 0 rfl ?_
  refine g_iload_n F dX5_told_13 2 rfl ?_
  refine g_iload_n F dX5_told_14 1 rfl ?_
  refine rX5_X5_isOf F dX5_told_15 rfl h (fun r4 s3 h => ?_)
  refine g_if_ne F dX5_told_18 (tgt := 24) (by decide) (fun c5 => ?_) (fun c5 => ?_)
  · replace h := h.1 c5
    refine g_iload_n F dX5_told_24 2 rfl ?_
    refine g_iconst (v := (5 : Int32)) F dX5_told_25 (by decide) ?_
    refine g_icmp_ge F dX5_told_26 (tgt := 65) (by decide) (fun c6 => ?_) (fun c6 => ?_)
    · replace h := h.1 c6
      refine g_iload_n F dX5_told_65 2 rfl ?_
      refine g_bipush (v := (9 : Int32)) F dX5_told_66 (by decide) ?_
      refine g_icmp_ge F dX5_told_68 (tgt := 99) (by decide) (fun c7 => ?_) (fun c7 => ?_)
      · replace h := h.1 c7
        refine g_iload_n F dX5_told_99 2 rfl ?_
        refine g_bipush (v := (9 : Int32)) F dX5_told_100 (by decide) ?_
        refine g_icmp_ne F dX5_told_102 (tgt := 123) (by decide) (fun c8 => ?_) (fun c8 => ?_)
        · replace h := h.1 c8
          refine g_aload_n F dX5_told_123 0 rfl ?_
          refine g_iload_n F dX5_told_124 1 rfl ?_
          refine rX5_X5_costsOf F dX5_told_125 rfl h (fun r10 s9 h => ?_)
          exact g_iret F R rfl rfl dX5_told_128 ⟨_, _, rfl, rfl, h⟩
        replace h := h.2 c8
        refine g_aload_n F dX5_told_105 0 rfl ?_
        refine g_iload_n F dX5_told_106 1 rfl ?_
        refine g_aload_n F dX5_told_107 0 rfl ?_
        refine rgX5_X5_rows F dX5_told_108 ?_
        refine g_iconst (v := (3 : Int32)) F dX5_told_111 (by decide) ?_
        refine g_iload_n F dX5_told_112 1 rfl ?_
        refine g_imul F dX5_told_113 ?_
        refine g_iconst (v := (1 : Int32)) F dX5_told_114 (by decide) ?_
        refine g_iadd F dX5_told_115 ?_
        obtain ⟨hc, h⟩ := h
        refine g_iald (wf := mW (zg z) a E) F mA6 hc dX5_told_116 ?_
        refine rX5_X5_drawsOf F dX5_told_117 rfl h (fun r12 s11 h => ?_)
        refine g_goto F dX5_told_120 (tgt := 128) (by decide) ?_
        exact g_iret F R rfl rfl dX5_told_128 ⟨_, _, rfl, rfl, h⟩
      replace h := h.2 c7
      refine g_iload_n F dX5_told_71 2 rfl ?_
      refine g_bipush (v := (8 : Int32)) F dX5_told_72 (by decide) ?_
      refine g_icmp_ge F dX5_told_74 (tgt := 92) (by decide) (fun c13 => ?_) (fun c13 => ?_)
      · replace h := h.1 c13
        refine g_aload_n F dX5_told_92 0 rfl ?_
        refine rgX5_X5_kinds F dX5_told_93 ?_
        refine g_iload_n F dX5_told_96 1 rfl ?_
        obtain ⟨hc, h⟩ := h
        refine g_iald (wf := mW (zg z) a E) F mA5 hc dX5_told_97 ?_
        exact g_iret F R rfl rfl dX5_told_98 ⟨_, _, rfl, rfl, h⟩
      replace h := h.2 c13
      refine g_aload_n F dX5_told_77 0 rfl ?_
      refine rgX5_X5_rows F dX5_told_78 ?_
      refine g_iconst (v := (3 : Int32)) F dX5_told_81 (by decide) ?_
      refine g_iload_n F dX5_told_82 1 rfl ?_
      refine g_imul F dX5_told_83 ?_
      refine g_iload_n F dX5_told_84 2 rfl ?_
      refine g_iadd F dX5_told_85 ?_
      refine g_iconst (v := (5 : Int32)) F dX5_told_86 (by decide) ?_
      refine g_isub F dX5_told_87 ?_
      obtain ⟨hc, h⟩ := h
      refine g_iald (wf := mW (zg z) a E) F mA6 hc dX5_told_88 ?_
      refine g_goto F dX5_told_89 (tgt := 98) (by decide) ?_
      exact g_iret F R rfl rfl dX5_told_98 ⟨_, _, rfl, rfl, h⟩
    replace h := h.2 c6
    refine g_iload_n F dX5_told_29 2 rfl ?_
    refine g_if_ne F dX5_told_30 (tgt := 40) (by decide) (fun c14 => ?_) (fun c14 => ?_)
    · replace h := h.1 c14
      refine g_iload_n F dX5_told_40 2 rfl ?_
      refine g_iconst (v := (1 : Int32)) F dX5_told_41 (by decide) ?_
      refine g_icmp_ne F dX5_told_42 (tgt := 52) (by decide) (fun c15 => ?_) (fun c15 => ?_)
      · replace h := h.1 c15
        refine g_aload_n F dX5_told_52 0 rfl ?_
        refine rgX5_X5_fen F dX5_told_53 ?_
        refine g_iconst (v := (3 : Int32)) F dX5_told_56 (by decide) ?_
        refine g_iload_n F dX5_told_57 1 rfl ?_
        refine g_imul F dX5_told_58 ?_
        refine g_iload_n F dX5_told_59 2 rfl ?_
        refine g_iadd F dX5_told_60 ?_
        refine g_iconst (v := (2 : Int32)) F dX5_told_61 (by decide) ?_
        refine g_isub F dX5_told_62 ?_
        obtain ⟨hc, h⟩ := h
        refine g_iald (wf := mW (zg z) a E) F mA4 hc dX5_told_63 ?_
        exact g_iret F R rfl rfl dX5_told_64 ⟨_, _, rfl, rfl, h⟩
      replace h := h.2 c15
      refine g_aload_n F dX5_told_45 0 rfl ?_
      refine rgX5_X5_yearNow F dX5_told_46 ?_
      refine g_goto F dX5_told_49 (tgt := 64) (by decide) ?_
      exact g_iret F R rfl rfl dX5_told_64 ⟨_, _, rfl, rfl, h⟩
    replace h := h.2 c14
    refine g_aload_n F dX5_told_33 0 rfl ?_
    refine rgX5_X5_riverNow F dX5_told_34 ?_
    refine g_goto F dX5_told_37 (tgt := 64) (by decide) ?_
    exact g_iret F R rfl rfl dX5_told_64 ⟨_, _, rfl, rfl, h⟩
  replace h := h.2 c5
  refine g_bipush (v := (-2 : Int32)) F dX5_told_21 (by decide) ?_
  exact g_iret F R rfl rfl dX5_told_23 ⟨_, _, rfl, rfl, h⟩
set_option maxRecDepth 20000 in
theorem ctX5_lays (l : Launch) (g : kG) (A : Nat → Prop) (a : Nat → Nat) (E : va_W) {l1 : Int32} {l2 : Int32} {l3 : Int32} {σ : kS} {Q : kS → Prop} (h : wX5_lays l1 l2 l3 σ Q) : kCt l yX5_lays cX5_lays 4 none 0 40 0 0 g A [.ref (a 0), .int l1, .int l2, .int l3] (mW g a E σ) (kPv (mW g a E) Q) := by
  refine kCt.of (lv0 := [(0, .ref (a 0)), (1, .int l1), (2, .int l2), (3, .int l3)]) (by decide +kernel) (Nat.le_of_ble_eq_true rfl) rfl (fun z hl hg hA F R => ?_)
  subst hl hg hA
  have F : kF z cX5_lays RX5 4 { frames := 0, cells := 0, slots := 0, locals := 40 } := F
  unfold wX5_lays at h
  refine g_iload_n F dX5_lays_0 1 rfl ?_
  refine g_if_ne F dX5_lays_1 (tgt := 12) (by decide) (fun c1 => ?_) (fun c1 => ?_)
  · replace h := h.1 c1
    refine g_iload_n F dX5_lays_12 1 rfl ?_
    refine g_iconst (v := (1 : Int32)) F dX5_lays_13 (by decide) ?_
    refine g_icmp_ne F dX5_lays_14 (tgt := 25) (by decide) (fun c2 => ?_) (fun c2 => ?_)
    · replace h := h.1 c2
      refine g_iload_n F dX5_lays_25 1 rfl ?_
      refine g_iconst (v := (5 : Int32)) F dX5_lays_26 (by decide) ?_
      refine g_icmp_ge F dX5_lays_27 (tgt := 46) (by decide) (fun c3 => ?_) (fun c3 => ?_)
      · replace h := h.1 c3
        refine g_iload_n F dX5_lays_46 1 rfl ?_
        refine g_bipush (v := (8 : Int32)) F dX5_lays_47 (by decide) ?_
        refine g_icmp_ge F dX5_lays_49 (tgt := 68) (by decide) (fun c4 => ?_) (fun c4 => ?_)
        · replace h := h.1 c4
          refine g_iload_n F dX5_lays_68 1 rfl ?_
          refine g_bipush (v := (8 : Int32)) F dX5_lays_69 (by decide) ?_
          refine g_icmp_ne F dX5_lays_71 (tgt := 84) (by decide) (fun c5 => ?_) (fun c5 => ?_)
          · replace h := h.1 c5
            refine g_aload_n F dX5_lays_84 0 rfl ?_
            refine g_iload_n F dX5_lays_85 3 rfl ?_
            refine rpX5_X5_rule F dX5_lays_86 ?_
            refine g_name (wf := mW (zg z) a E) (fun s6 es6 => ?_)
            replace h := h s6 es6
            exact g_vret F R rfl rfl dX5_lays_89 ⟨_, rfl, rfl, h⟩
          replace h := h.2 c5
          refine g_aload_n F dX5_lays_74 0 rfl ?_
          refine rgX5_X5_kinds F dX5_lays_75 ?_
          refine g_iload_n F dX5_lays_78 2 rfl ?_
          refine g_iload_n F dX5_lays_79 3 rfl ?_
          obtain ⟨hc, h⟩ := h
          refine g_iast (wf := mW (zg z) a E) F mA5 hc dX5_lays_80 ?_
          refine g_name (wf := mW (zg z) a E) (fun s7 es7 => ?_)
          replace h := h s7 es7
          refine g_goto F dX5_lays_81 (tgt := 89) (by decide) ?_
          exact g_vret F R rfl rfl dX5_lays_89 ⟨_, rfl, rfl, h⟩
        replace h := h.2 c4
        refine g_aload_n F dX5_lays_52 0 rfl ?_
        refine rgX5_X5_rows F dX5_lays_53 ?_
        refine g_iconst (v := (3 : Int32)) F dX5_lays_56 (by decide) ?_
        refine g_iload_n F dX5_lays_57 2 rfl ?_
        refine g_imul F dX5_lays_58 ?_
        refine g_iload_n F dX5_lays_59 1 rfl ?_
        refine g_iadd F dX5_lays_60 ?_
        refine g_iconst (v := (5 : Int32)) F dX5_lays_61 (by decide) ?_
        refine g_isub F dX5_lays_62 ?_
        refine g_iload_n F dX5_lays_63 3 rfl ?_
        obtain ⟨hc, h⟩ := h
        refine g_iast (wf := mW (zg z) a E) F mA6 hc dX5_lays_64 ?_
        refine g_name (wf := mW (zg z) a E) (fun s8 es8 => ?_)
        replace h := h s8 es8
        refine g_goto F dX5_lays_65 (tgt := 89) (by decide) ?_
        exact g_vret F R rfl rfl dX5_lays_89 ⟨_, rfl, rfl, h⟩
      replace h := h.2 c3
      refine g_aload_n F dX5_lays_30 0 rfl ?_
      refine rgX5_X5_fen F dX5_lays_31 ?_
      refine g_iconst (v := (3 : Int32)) F dX5_lays_34 (by decide) ?_
      refine g_iload_n F dX5_lays_35 2 rfl ?_
      refine g_imul F dX5_lays_36 ?_
      refine g_iload_n F dX5_lays_37 1 rfl ?_
      refine g_iadd F dX5_lays_38 ?_
      refine g_iconst (v := (2 : Int32)) F dX5_lays_39 (by decide) ?_
      refine g_isub F dX5_lays_40 ?_
      refine g_iload_n F dX5_lays_41 3 rfl ?_
      obtain ⟨hc, h⟩ := h
      refine g_iast (wf := mW (zg z) a E) F mA4 hc dX5_lays_42 ?_
      refine g_name (wf := mW (zg z) a E) (fun s9 es9 => ?_)
      replace h := h s9 es9
      refine g_goto F dX5_lays_43 (tgt := 89) (by decide) ?_
      exact g_vret F R rfl rfl dX5_lays_89 ⟨_, rfl, rfl, h⟩
    replace h := h.2 c2
    refine g_aload_n F dX5_lays_17 0 rfl ?_
    refine g_iload_n F dX5_lays_18 3 rfl ?_
    refine rpX5_X5_yearNow F dX5_lays_19 ?_
    refine g_name (wf := mW (zg z) a E) (fun s10 es10 => ?_)
    replace h := h s10 es10
    refine g_goto F dX5_lays_22 (tgt := 89) (by decide) ?_
    exact g_vret F R rfl rfl dX5_lays_89 ⟨_, rfl, rfl, h⟩
  replace h := h.2 c1
  refine g_aload_n F dX5_lays_4 0 rfl ?_
  refine g_iload_n F dX5_lays_5 3 rfl ?_
  refine rpX5_X5_riverNow F dX5_lays_6 ?_
  refine g_name (wf := mW (zg z) a E) (fun s11 es11 => ?_)
  replace h := h s11 es11
  refine g_goto F dX5_lays_9 (tgt := 89) (by decide) ?_
  exact g_vret F R rfl rfl dX5_lays_89 ⟨_, rfl, rfl, h⟩
theorem plX5_mostOf : kPlain yX5_mostOf 1 = true := by decide +kernel
theorem rX5_X5_mostOf {z : kZ} {cc : ByteArray} {nL : Nat} {rm : Room} {c n pc : Nat} {lv : List (Nat × Value)} {st : List Value} {ws : va_W} {l0 : Int32} {Q : Int32 → Prop} (F : kF z cc RX5 nL rm) (hd : decode cc pc = .ok (.invokestatic 95, 3)) (hf : kFits rm 0 40 0 0 1 c n st = true) (h : wX5_mostOf l0 Q) (k : ∀ v : Int32, Q v → kV z ws c n (pc + 3) lv (.int v :: st)) : kV z ws c n pc lv (.int l0 :: st) := g_callS F (av := [.int l0]) (ctX5_mostOf _ _ _ ws h) wq973 wq974 wq114 wq975 plX5_mostOf hd hf (fun r ws' hq => by
    obtain ⟨v, rfl, rfl, hq⟩ := hq
    exact k v hq)
theorem plX5_told : kPlain yX5_told 2 = true := by decide +kernel
theorem rX5_X5_told {z : kZ} {cc : ByteArray} {nL : Nat} {rm : Room} {c n pc : Nat} {lv : List (Nat × Value)} {st : List Value} {a : Nat → Nat} {E : va_W} {σ : kS} {l1 : Int32} {l2 : Int32} {Q : Int32 → kS → Prop} (F : kF z cc RX5 nL rm) (hd : decode cc pc = .ok (.invokevirtual 99, 3)) (hf : kFits rm 44 1017 0 0 3 c n st = true) (h : wX5_told l1 l2 σ Q) (k : ∀ (v : Int32) (σ' : kS), Q v σ' → kV z (mW (zg z) a E σ') c n (pc + 3) lv (.int v :: st)) : kV z (mW (zg z) a E σ) c n pc lv (.int l2 :: .int l1 :: .ref (a 0) :: st) := by
  exact g_callV F (av := [.int l1, .int l2]) (ctX5_told _ _ _ a E h) (ci := 5) (q0 := 0) rfl rfl rfl wq976 wq977 wq978 wq114 wq979 plX5_told hd hf (fun r ws' hq => by
    obtain ⟨v, σ', rfl, rfl, hq⟩ := hq
    exact k v σ' hq)
theorem plX5_lays : kPlain yX5_lays 3 = true := by decide +kernel
theorem rX5_X5_lays {z : kZ} {cc : ByteArray} {nL : Nat} {rm : Room} {c n pc : Nat} {lv : List (Nat × Value)} {st : List Value} {a : Nat → Nat} {E : va_W} {σ : kS} {l1 : Int32} {l2 : Int32} {l3 : Int32} {Q : kS → Prop} (F : kF z cc RX5 nL rm) (hd : decode cc pc = .ok (.invokevirtual 103, 3)) (hf : kFits rm 0 40 0 0 4 c n st = true) (h : wX5_lays l1 l2 l3 σ Q) (k : ∀ σ' : kS, Q σ' → kV z (mW (zg z) a E σ') c n (pc + 3) lv st) : kV z (mW (zg z) a E σ) c n pc lv (.int l3 :: .int l2 :: .int l1 :: .ref (a 0) :: st) := by
  exact g_callV F (av := [.int l1, .int l2, .int l3]) (ctX5_lays _ _ _ a E h) (ci := 5) (q0 := 0) rfl rfl rfl wq1186 wq1188 wq92 wq114 wq1189 plX5_lays hd hf (fun r ws' hq => by
    obtain ⟨σ', rfl, rfl, hq⟩ := hq
    exact k σ' hq)
set_option maxRecDepth 20000 in
theorem ctX5_set (l : Launch) (g : kG) (A : Nat → Prop) (a : Nat → Nat) (E : va_W) {l1 : Int32} {l2 : Int32} {l3 : Int32} {σ : kS} {Q : Int32 → kS → Prop} (h : wX5_set l1 l2 l3 σ Q) : kCt l yX5_set cX5_set 5 (some .int) 45 1039 0 0 g A [.ref (a 0), .int l1, .int l2, .int l3] (mW g a E σ) (kPi (mW g a E) Q) := by
  refine kCt.of (lv0 := [(0, .ref (a 0)), (1, .int l1), (2, .int l2), (3, .int l3)]) (by decide +kernel) (Nat.le_of_ble_eq_true rfl) rfl (fun z hl hg hA F R => ?_)
  subst hl hg hA
  have F : kF z cX5_set RX5 5 { frames := 45, cells := 0, slots := 0, locals := 1039 } := F
  unfold wX5_set at h
  refine g_iload_n F dX5_set_0 1 rfl ?_
  refine g_i2l F dX5_set_1 ?_
  refine g_lconst (v := (0 : Int64)) F dX5_set_2 (by decide) ?_
  refine g_ldc2 (v := (7 : Int64)) F dX5_set_3 wq957 ?_
  refine rX5_X5_in F dX5_set_6 rfl h (fun r1 h => ?_)
  refine g_if_eq F dX5_set_9 (tgt := 35) (by decide) (fun c2 => ?_) (fun c2 => ?_)
  · replace h := h.1 c2
    refine g_bipush (v := (-2 : Int32)) F dX5_set_35 (by decide) ?_
    exact g_iret F R rfl rfl dX5_set_37 ⟨_, _, rfl, rfl, h⟩
  replace h := h.2 c2
  refine g_aload_n F dX5_set_12 0 rfl ?_
  refine g_iload_n F dX5_set_13 1 rfl ?_
  refine g_iload_n F dX5_set_14 2 rfl ?_
  refine rX5_X5_isOf F dX5_set_15 rfl h (fun r4 s3 h => ?_)
  refine g_if_eq F dX5_set_18 (tgt := 35) (by decide) (fun c5 => ?_) (fun c5 => ?_)
  · replace h := h.1 c5
    refine g_bipush (v := (-2 : Int32)) F dX5_set_35 (by decide) ?_
    exact g_iret F R rfl rfl dX5_set_37 ⟨_, _, rfl, rfl, h⟩
  replace h := h.2 c5
  refine g_iload_n F dX5_set_21 3 rfl ?_
  refine g_i2l F dX5_set_22 ?_
  refine g_lconst (v := (0 : Int64)) F dX5_set_23 (by decide) ?_
  refine g_iload_n F dX5_set_24 1 rfl ?_
  refine rX5_X5_mostOf F dX5_set_25 rfl h (fun r6 h => ?_)
  refine g_i2l F dX5_set_28 ?_
  refine rX5_X5_in F dX5_set_29 rfl h (fun r7 h => ?_)
  refine g_if_ne F dX5_set_32 (tgt := 38) (by decide) (fun c8 => ?_) (fun c8 => ?_)
  · replace h := h.1 c8
    refine g_aload_n F dX5_set_38 0 rfl ?_
    refine g_iload_n F dX5_set_39 2 rfl ?_
    refine g_iload_n F dX5_set_40 1 rfl ?_
    refine rX5_X5_told F dX5_set_41 rfl h (fun r10 s9 h => ?_)
    refine g_istore (lv' := [(4, .int r10), (0, .ref (a 0)), (1, .int l1), (2, .int l2), (3, .int l3)]) F dX5_set_44 rfl rfl ?_
    refine g_aload_n F dX5_set_46 1 rfl ?_
    refine g_iload_n F dX5_set_47 2 rfl ?_
    refine g_iload_n F dX5_set_48 3 rfl ?_
    refine g_iload_n F dX5_set_49 4 rfl ?_
    refine rX5_X5_lays F dX5_set_50 rfl h (fun s11 h => ?_)
    refine g_iload F dX5_set_53 0 rfl ?_
    exact g_iret F R rfl rfl dX5_set_55 ⟨_, _, rfl, rfl, h⟩
  replace h := h.2 c8
  refine g_bipush (v := (-2 : Int32)) F dX5_set_35 (by decide) ?_
  exact g_iret F R rfl rfl dX5_set_37 ⟨_, _, rfl, rfl, h⟩
set_option maxRecDepth 20000 in
theorem ctX5_comes (l : Launch) (g : kG) (A : Nat → Prop) (a : Nat → Nat) (E : va_W) {l1 : Int32} {l2 : Int32} {l3 : Int32} {σ : kS} {Q : kS → Prop} (h : wX5_comes l1 l2 l3 σ Q) : kCt l yX5_comes cX5_comes 4 none 0 40 0 0 g A [.ref (a 0), .int l1, .int l2, .int l3] (mW g a E σ) (kPv (mW g a E) Q) := by
  refine kCt.of (lv0 := [(0, .ref (a 0)), (1, .int l1), (2, .int l2), (3, .int l3)]) (by decide +kernel) (Nat.le_of_ble_eq_true rfl) rfl (fun z hl hg hA F R => ?_)
  subst hl hg hA
  have F : kF z cX5_comes RX5 4 { frames := 0, cells := 0, slots := 0, locals := 40 } := F
  unfold wX5_comes at h
  refine g_aload_n F dX5_comes_0 0 rfl ?_
  refine rgX5_X5_kinds F dX5_comes_1 ?_
  refine g_aload_n F dX5_comes_4 0 rfl ?_
  refine rgX5_X5_many F dX5_comes_5 ?_
  refine g_iload_n F dX5_comes_8 1 rfl ?_
  obtain ⟨hc, h⟩ := h
  refine g_iast (wf := mW (zg z) a E) F mA5 hc dX5_comes_9 ?_
  refine g_name (wf := mW (zg z) a E) (fun s1 es1 => ?_)
  replace h := h s1 es1
  refine g_aload_n F dX5_comes_10 0 rfl ?_
  refine rgX5_X5_rows F dX5_comes_11 ?_
  refine g_iconst (v := (3 : Int32)) F dX5_comes_14 (by decide) ?_
  refine g_aload_n F dX5_comes_15 0 rfl ?_
  refine rgX5_X5_many F dX5_comes_16 ?_
  refine g_imul F dX5_comes_19 ?_
  refine g_iload_n F dX5_comes_20 2 rfl ?_
  obtain ⟨hc, h⟩ := h
  refine g_iast (wf := mW (zg z) a E) F mA6 hc dX5_comes_21 ?_
  refine g_name (wf := mW (zg z) a E) (fun s2 es2 => ?_)
  replace h := h s2 es2
  refine g_aload_n F dX5_comes_22 0 rfl ?_
  refine rgX5_X5_rows F dX5_comes_23 ?_
  refine g_iconst (v := (3 : Int32)) F dX5_comes_26 (by decide) ?_
  refine g_aload_n F dX5_comes_27 0 rfl ?_
  refine rgX5_X5_many F dX5_comes_28 ?_
  refine g_imul F dX5_comes_31 ?_
  refine g_iconst (v := (1 : Int32)) F dX5_comes_32 (by decide) ?_
  refine g_iadd F dX5_comes_33 ?_
  refine g_iload_n F dX5_comes_34 3 rfl ?_
  obtain ⟨hc, h⟩ := h
  refine g_iast (wf := mW (zg z) a E) F mA6 hc dX5_comes_35 ?_
  refine g_name (wf := mW (zg z) a E) (fun s3 es3 => ?_)
  replace h := h s3 es3
  refine g_aload_n F dX5_comes_36 0 rfl ?_
  refine rgX5_X5_rows F dX5_comes_37 ?_
  refine g_iconst (v := (3 : Int32)) F dX5_comes_40 (by decide) ?_
  refine g_aload_n F dX5_comes_41 0 rfl ?_
  refine rgX5_X5_many F dX5_comes_42 ?_
  refine g_imul F dX5_comes_45 ?_
  refine g_iconst (v := (2 : Int32)) F dX5_comes_46 (by decide) ?_
  refine g_iadd F dX5_comes_47 ?_
  refine g_iconst (v := (1 : Int32)) F dX5_comes_48 (by decide) ?_
  obtain ⟨hc, h⟩ := h
  refine g_iast (wf := mW (zg z) a E) F mA6 hc dX5_comes_49 ?_
  refine g_name (wf := mW (zg z) a E) (fun s4 es4 => ?_)
  replace h := h s4 es4
  refine g_aload_n F dX5_comes_50 0 rfl ?_
  refine g_dup F dX5_comes_51 rfl ?_
  refine rgX5_X5_many F dX5_comes_52 ?_
  refine g_iconst (v := (1 : Int32)) F dX5_comes_55 (by decide) ?_
  refine g_iadd F dX5_comes_56 ?_
  refine rpX5_X5_many F dX5_comes_57 ?_
  refine g_name (wf := mW (zg z) a E) (fun s5 es5 => ?_)
  replace h := h s5 es5
  exact g_vret F R rfl rfl dX5_comes_60 ⟨_, rfl, rfl, h⟩
theorem plX5_comes : kPlain yX5_comes 3 = true := by decide +kernel
theorem rX5_X5_comes {z : kZ} {cc : ByteArray} {nL : Nat} {rm : Room} {c n pc : Nat} {lv : List (Nat × Value)} {st : List Value} {a : Nat → Nat} {E : va_W} {σ : kS} {l1 : Int32} {l2 : Int32} {l3 : Int32} {Q : kS → Prop} (F : kF z cc RX5 nL rm) (hd : decode cc pc = .ok (.invokevirtual 117, 3)) (hf : kFits rm 0 40 0 0 4 c n st = true) (h : wX5_comes l1 l2 l3 σ Q) (k : ∀ σ' : kS, Q σ' → kV z (mW (zg z) a E σ') c n (pc + 3) lv st) : kV z (mW (zg z) a E σ) c n pc lv (.int l3 :: .int l2 :: .int l1 :: .ref (a 0) :: st) := by
  exact g_callV F (av := [.int l1, .int l2, .int l3]) (ctX5_comes _ _ _ a E h) (ci := 5) (q0 := 0) rfl rfl rfl wq1196 wq1198 wq93 wq114 wq1199 plX5_comes hd hf (fun r ws' hq => by
    obtain ⟨σ', rfl, rfl, hq⟩ := hq
    exact k σ' hq)
set_option maxRecDepth 20000 in
theorem ctX5_work (l : Launch) (g : kG) (A : Nat → Prop) (a : Nat → Nat) (E : va_W) {l1 : Int32} {l2 : Int32} {l3 : Int32} {σ : kS} {Q : Int32 → kS → Prop} (h : wX5_work l1 l2 l3 σ Q) : kCt l yX5_work cX5_work 4 (some .int) 2 85 0 0 g A [.ref (a 0), .int l1, .int l2, .int l3] (mW g a E σ) (kPi (mW g a E) Q) := by
  refine kCt.of (lv0 := [(0, .ref (a 0)), (1, .int l1), (2, .int l2), (3, .int l3)]) (by decide +kernel) (Nat.le_of_ble_eq_true rfl) rfl (fun z hl hg hA F R => ?_)
  subst hl hg hA
  have F : kF z cX5_work RX5 4 { frames := 2, cells := 0, slots := 0, locals := 85 } := F
  unfold wX5_work at h
  refine g_iload_n F dX5_work_0 1 rfl ?_
  refine g_i2l F dX5_work_1 ?_
  refine g_lconst (v := (0 : Int64)) F dX5_work_2 (by decide) ?_
  refine g_ldc2 (v := (5 : Int64)) F dX5_work_3 wq1194 ?_
  refine rX5_X5_in F dX5_work_6 rfl h (fun r1 h => ?_)
  refine g_if_eq F dX5_work_9 (tgt := 31) (by decide) (fun c2 => ?_) (fun c2 => ?_)
  · replace h := h.1 c2
    refine g_bipush (v := (-2 : Int32)) F dX5_work_31 (by decide) ?_
    exact g_iret F R rfl rfl dX5_work_33 ⟨_, _, rfl, rfl, h⟩
  replace h := h.2 c2
  refine g_iload_n F dX5_work_12 2 rfl ?_
  refine g_i2l F dX5_work_13 ?_
  refine g_lconst (v := (0 : Int64)) F dX5_work_14 (by decide) ?_
  refine g_ldc2 (v := (9 : Int64)) F dX5_work_15 wq1195 ?_
  refine rX5_X5_in F dX5_work_18 rfl h (fun r3 h => ?_)
  refine g_if_eq F dX5_work_21 (tgt := 31) (by decide) (fun c4 => ?_) (fun c4 => ?_)
  · replace h := h.1 c4
    refine g_bipush (v := (-2 : Int32)) F dX5_work_31 (by decide) ?_
    exact g_iret F R rfl rfl dX5_work_33 ⟨_, _, rfl, rfl, h⟩
  replace h := h.2 c4
  refine g_iload_n F dX5_work_24 3 rfl ?_
  refine rX5_X5_isCell F dX5_work_25 rfl h (fun r5 h => ?_)
  refine g_if_ne F dX5_work_28 (tgt := 34) (by decide) (fun c6 => ?_) (fun c6 => ?_)
  · replace h := h.1 c6
    refine g_aload_n F dX5_work_34 0 rfl ?_
    refine rgX5_X5_many F dX5_work_35 ?_
    refine g_bipush (v := (6 : Int32)) F dX5_work_38 (by decide) ?_
    refine g_icmp_ne F dX5_work_40 (tgt := 46) (by decide) (fun c7 => ?_) (fun c7 => ?_)
    · replace h := h.1 c7
      refine g_aload_n F dX5_work_46 0 rfl ?_
      refine g_iload_n F dX5_work_47 1 rfl ?_
      refine g_iload_n F dX5_work_48 2 rfl ?_
      refine g_iload_n F dX5_work_49 3 rfl ?_
      refine rX5_X5_comes F dX5_work_50 rfl h (fun s8 h => ?_)
      refine g_aload_n F dX5_work_53 0 rfl ?_
      refine rgX5_X5_many F dX5_work_54 ?_
      refine g_iconst (v := (1 : Int32)) F dX5_work_57 (by decide) ?_
      refine g_isub F dX5_work_58 ?_
      exact g_iret F R rfl rfl dX5_work_59 ⟨_, _, rfl, rfl, h⟩
    replace h := h.2 c7
    refine g_bipush (v := (-4 : Int32)) F dX5_work_43 (by decide) ?_
    exact g_iret F R rfl rfl dX5_work_45 ⟨_, _, rfl, rfl, h⟩
  replace h := h.2 c6
  refine g_bipush (v := (-2 : Int32)) F dX5_work_31 (by decide) ?_
  exact g_iret F R rfl rfl dX5_work_33 ⟨_, _, rfl, rfl, h⟩
set_option maxRecDepth 20000 in
theorem ctX5_feed (l : Launch) (g : kG) (A : Nat → Prop) (a : Nat → Nat) (E : va_W) {l1 : Int32} {σ : kS} {Q : Int32 → kS → Prop} (h : wX5_feed l1 σ Q) : kCt l yX5_feed cX5_feed 2 (some .int) 1 65 0 0 g A [.ref (a 0), .int l1] (mW g a E σ) (kPi (mW g a E) Q) := by
  refine kCt.of (lv0 := [(0, .ref (a 0)), (1, .int l1)]) (by decide +kernel) (Nat.le_of_ble_eq_true rfl) rfl (fun z hl hg hA F R => ?_)
  subst hl hg hA
  have F : kF z cX5_feed RX5 2 { frames := 1, cells := 0, slots := 0, locals := 65 } := F
  unfold wX5_feed at h
  refine g_iload_n F dX5_feed_0 1 rfl ?_
  refine g_i2l F dX5_feed_1 ?_
  refine g_lconst (v := (0 : Int64)) F dX5_feed_2 (by decide) ?_
  refine g_ldc2 (v := (255 : Int64)) F dX5_feed_3 wq1205 ?_
  refine rX5_X5_in F dX5_feed_6 rfl h (fun r1 h => ?_)
  refine g_if_ne F dX5_feed_9 (tgt := 15) (by decide) (fun c2 => ?_) (fun c2 => ?_)
  · replace h := h.1 c2
    refine g_aload_n F dX5_feed_15 0 rfl ?_
    refine rgX5_X5_taped F dX5_feed_16 ?_
    refine g_sipush (v := (160 : Int32)) F dX5_feed_19 (by decide) ?_
    refine g_icmp_ne F dX5_feed_22 (tgt := 28) (by decide) (fun c3 => ?_) (fun c3 => ?_)
    · replace h := h.1 c3
      refine g_aload_n F dX5_feed_28 0 rfl ?_
      refine rgX5_X5_tape F dX5_feed_29 ?_
      refine g_aload_n F dX5_feed_32 0 rfl ?_
      refine rgX5_X5_taped F dX5_feed_33 ?_
      refine g_iload_n F dX5_feed_36 1 rfl ?_
      obtain ⟨hc, h⟩ := h
      refine g_iast (wf := mW (zg z) a E) F mA3 hc dX5_feed_37 ?_
      refine g_name (wf := mW (zg z) a E) (fun s4 es4 => ?_)
      replace h := h s4 es4
      refine g_aload_n F dX5_feed_38 0 rfl ?_
      refine g_dup F dX5_feed_39 rfl ?_
      refine rgX5_X5_taped F dX5_feed_40 ?_
      refine g_iconst (v := (1 : Int32)) F dX5_feed_43 (by decide) ?_
      refine g_iadd F dX5_feed_44 ?_
      refine rpX5_X5_taped F dX5_feed_45 ?_
      refine g_name (wf := mW (zg z) a E) (fun s5 es5 => ?_)
      replace h := h s5 es5
      refine g_aload_n F dX5_feed_48 0 rfl ?_
      refine rgX5_X5_taped F dX5_feed_49 ?_
      exact g_iret F R rfl rfl dX5_feed_52 ⟨_, _, rfl, rfl, h⟩
    replace h := h.2 c3
    refine g_bipush (v := (-4 : Int32)) F dX5_feed_25 (by decide) ?_
    exact g_iret F R rfl rfl dX5_feed_27 ⟨_, _, rfl, rfl, h⟩
  replace h := h.2 c2
  refine g_bipush (v := (-2 : Int32)) F dX5_feed_12 (by decide) ?_
  exact g_iret F R rfl rfl dX5_feed_14 ⟨_, _, rfl, rfl, h⟩
