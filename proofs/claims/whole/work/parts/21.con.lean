theorem plX5_atom4 : kPlain yX5_atom4 0 = true := by decide +kernel
theorem rX5_X5_atom4 {z : kZ} {cc : ByteArray} {nL : Nat} {rm : Room} {c n pc : Nat} {lv : List (Nat × Value)} {st : List Value} {a : Nat → Nat} {E : va_W} {σ : kS} {Q : Int32 → kS → Prop} (F : kF z cc RX5 nL rm) (hd : decode cc pc = .ok (.invokevirtual 237, 3)) (hf : kFits rm 10 263 0 0 2 c n st = true) (h : wX5_atom4 σ Q) (k : ∀ (v : Int32) (σ' : kS), Q v σ' → kV z (mW (zg z) a E σ') c n (pc + 3) lv (.int v :: st)) : kV z (mW (zg z) a E σ) c n pc lv (.ref (a 0) :: st) := by
  exact g_callV F (av := []) (ctX5_atom4 _ _ _ a E h) (ci := 5) (q0 := 0) rfl rfl rfl wq1091 wq1093 wq69 wq114 wq1094 plX5_atom4 hd hf (fun r ws' hq => by
    obtain ⟨v, σ', rfl, rfl, hq⟩ := hq
    exact k v σ' hq)
set_option maxRecDepth 20000 in
theorem sX5_term4_5 {z : kZ} {a : Nat → Nat} {E : va_W}  {Q : Int32 → kS → Prop} {l1 : Int32} {σ : kS} (F : kF z cX5_term4 RX5 2 { frames := 11, cells := 0, slots := 0, locals := 284 }) (R : kR z (some .int) 0 0 (kPi (mW (zg z) a E) Q)) (h : wX5_term4_5 Q l1 σ) : kV z (mW (zg z) a E σ) 0 0 5 [(0, .ref (a 0)), (1, .int l1)] [] := by
  unfold wX5_term4_5 at h
  refine h (fun σ l1 => kV z (mW (zg z) a E σ) 0 0 5 [(0, .ref (a 0)), (1, .int l1)] []) (fun σ l1 h => ?_)
  refine g_aload_n F dX5_term4_5 0 rfl ?_
  refine g_bipush (v := (42 : Int32)) F dX5_term4_6 (by decide) ?_
  refine rX5_X5_isSign F dX5_term4_8 rfl h (fun r4 s3 h => ?_)
  refine g_if_eq F dX5_term4_11 (tgt := 28) (by decide) (fun c5 => ?_) (fun c5 => ?_)
  · replace h := h.1 c5
    refine g_iload_n F dX5_term4_28 1 rfl ?_
    exact g_iret F R rfl rfl dX5_term4_29 ⟨_, _, rfl, rfl, h⟩
  replace h := h.2 c5
  refine g_aload_n F dX5_term4_14 0 rfl ?_
  refine rX5_X5_next F dX5_term4_15 rfl h (fun s6 h => ?_)
  refine g_iload_n F dX5_term4_18 1 rfl ?_
  refine g_aload_n F dX5_term4_19 0 rfl ?_
  refine rX5_X5_atom4 F dX5_term4_20 rfl h (fun r8 s7 h => ?_)
  refine g_imul F dX5_term4_23 ?_
  refine g_topi (fun x9 ex9 => ?_)
  replace h := h x9 ex9
  refine g_istore_n (lv' := [(1, .int x9), (0, .ref (a 0))]) F dX5_term4_24 rfl rfl ?_
  refine g_goto F dX5_term4_25 (tgt := 5) (by decide) ?_
  exact (g_sub [1, 0] rfl h)
set_option maxRecDepth 20000 in
theorem ctX5_term4 (l : Launch) (g : kG) (A : Nat → Prop) (a : Nat → Nat) (E : va_W) {σ : kS} {Q : Int32 → kS → Prop} (h : wX5_term4 σ Q) : kCt l yX5_term4 cX5_term4 2 (some .int) 11 284 0 0 g A [.ref (a 0)] (mW g a E σ) (kPi (mW g a E) Q) := by
  refine kCt.of (lv0 := [(0, .ref (a 0))]) (by decide +kernel) (Nat.le_of_ble_eq_true rfl) rfl (fun z hl hg hA F R => ?_)
  subst hl hg hA
  have F : kF z cX5_term4 RX5 2 { frames := 11, cells := 0, slots := 0, locals := 284 } := F
  unfold wX5_term4 at h
  refine g_aload_n F dX5_term4_0 0 rfl ?_
  refine rX5_X5_atom4 F dX5_term4_1 rfl h (fun r2 s1 h => ?_)
  refine g_istore_n (lv' := [(1, .int r2), (0, .ref (a 0))]) F dX5_term4_4 rfl rfl ?_
  exact g_sub [1, 0] rfl (sX5_term4_5 F R h)
theorem plX5_term4 : kPlain yX5_term4 0 = true := by decide +kernel
theorem rX5_X5_term4 {z : kZ} {cc : ByteArray} {nL : Nat} {rm : Room} {c n pc : Nat} {lv : List (Nat × Value)} {st : List Value} {a : Nat → Nat} {E : va_W} {σ : kS} {Q : Int32 → kS → Prop} (F : kF z cc RX5 nL rm) (hd : decode cc pc = .ok (.invokevirtual 240, 3)) (hf : kFits rm 11 284 0 0 2 c n st = true) (h : wX5_term4 σ Q) (k : ∀ (v : Int32) (σ' : kS), Q v σ' → kV z (mW (zg z) a E σ') c n (pc + 3) lv (.int v :: st)) : kV z (mW (zg z) a E σ) c n pc lv (.ref (a 0) :: st) := by
  exact g_callV F (av := []) (ctX5_term4 _ _ _ a E h) (ci := 5) (q0 := 0) rfl rfl rfl wq1087 wq1089 wq68 wq114 wq1090 plX5_term4 hd hf (fun r ws' hq => by
    obtain ⟨v, σ', rfl, rfl, hq⟩ := hq
    exact k v σ' hq)
set_option maxRecDepth 20000 in
theorem sX5_added4_39 {z : kZ} {a : Nat → Nat} {E : va_W}  {Q : Int32 → kS → Prop} {P5 : kS → Int32 → Prop} {l1 : Int32} {ks0 : Int32} {σ : kS} (F : kF z cX5_added4 RX5 4 { frames := 12, cells := 0, slots := 0, locals := 305 }) (R : kR z (some .int) 0 0 (kPi (mW (zg z) a E) Q)) (hP5 : ∀ (σ : kS) (l1 : Int32), P5 σ l1 → kV z (mW (zg z) a E σ) 0 0 5 [(0, .ref (a 0)), (1, .int l1)] []) (h : wX5_added4_39 Q P5 l1 ks0 σ) : kV z (mW (zg z) a E σ) 0 0 39 [(0, .ref (a 0)), (1, .int l1)] [.int ks0] := by
  unfold wX5_added4_39 at h
  refine g_istore_n (lv' := [(2, .int ks0), (0, .ref (a 0)), (1, .int l1)]) F dX5_added4_39 rfl rfl ?_
  refine g_aload_n F dX5_added4_40 1 rfl ?_
  refine rX5_X5_next F dX5_added4_41 rfl h (fun s10 h => ?_)
  refine g_aload_n F dX5_added4_44 1 rfl ?_
  refine rX5_X5_term4 F dX5_added4_45 rfl h (fun r12 s11 h => ?_)
  refine g_istore_n (lv' := [(3, .int r12), (2, .int ks0), (0, .ref (a 0)), (1, .int l1)]) F dX5_added4_48 rfl rfl ?_
  refine g_iload_n F dX5_added4_49 1 rfl ?_
  refine g_if_eq F dX5_added4_50 (tgt := 59) (by decide) (fun c13 => ?_) (fun c13 => ?_)
  · replace h := h.1 c13
    refine g_iload_n F dX5_added4_59 3 rfl ?_
    refine g_iload_n F dX5_added4_60 0 rfl ?_
    refine g_isub F dX5_added4_61 ?_
    refine g_topi (fun x14 ex14 => ?_)
    replace h := h x14 ex14
    refine g_istore_n (lv' := [(1, .int x14), (3, .int r12), (2, .int ks0), (0, .ref (a 0))]) F dX5_added4_62 rfl rfl ?_
    refine g_goto F dX5_added4_63 (tgt := 5) (by decide) ?_
    exact g_sub [3, 0] rfl (hP5 _ _ h)
  replace h := h.2 c13
  refine g_iload_n F dX5_added4_53 3 rfl ?_
  refine g_iload_n F dX5_added4_54 0 rfl ?_
  refine g_iadd F dX5_added4_55 ?_
  refine g_goto F dX5_added4_56 (tgt := 62) (by decide) ?_
  refine g_topi (fun x15 ex15 => ?_)
  replace h := h x15 ex15
  refine g_istore_n (lv' := [(1, .int x15), (3, .int r12), (2, .int ks0), (0, .ref (a 0))]) F dX5_added4_62 rfl rfl ?_
  refine g_goto F dX5_added4_63 (tgt := 5) (by decide) ?_
  exact g_sub [3, 0] rfl (hP5 _ _ h)
set_option maxRecDepth 20000 in
theorem sX5_added4_23 {z : kZ} {a : Nat → Nat} {E : va_W}  {Q : Int32 → kS → Prop} {P5 : kS → Int32 → Prop} {l1 : Int32} {σ : kS} (F : kF z cX5_added4 RX5 4 { frames := 12, cells := 0, slots := 0, locals := 305 }) (R : kR z (some .int) 0 0 (kPi (mW (zg z) a E) Q)) (hP5 : ∀ (σ : kS) (l1 : Int32), P5 σ l1 → kV z (mW (zg z) a E σ) 0 0 5 [(0, .ref (a 0)), (1, .int l1)] []) (h : wX5_added4_23 Q P5 l1 σ) : kV z (mW (zg z) a E σ) 0 0 23 [(0, .ref (a 0)), (1, .int l1)] [] := by
  unfold wX5_added4_23 at h
  refine g_aload_n F dX5_added4_23 0 rfl ?_
  refine rgX5_X5_tokenWorth F dX5_added4_24 ?_
  refine g_ldc2 (v := (43 : Int64)) F dX5_added4_27 wq1081 ?_
  refine g_lcmp F dX5_added4_30 ?_
  refine g_if_ne F dX5_added4_31 (tgt := 38) (by decide) (fun c9 => ?_) (fun c9 => ?_)
  · replace h := h.1 c9
    refine g_iconst (v := (0 : Int32)) F dX5_added4_38 (by decide) ?_
    exact (sX5_added4_39 F R hP5 h)
  replace h := h.2 c9
  refine g_iconst (v := (1 : Int32)) F dX5_added4_34 (by decide) ?_
  refine g_goto F dX5_added4_35 (tgt := 39) (by decide) ?_
  exact (sX5_added4_39 F R hP5 h)
set_option maxRecDepth 20000 in
theorem sX5_added4_5 {z : kZ} {a : Nat → Nat} {E : va_W}  {Q : Int32 → kS → Prop} {l1 : Int32} {σ : kS} (F : kF z cX5_added4 RX5 4 { frames := 12, cells := 0, slots := 0, locals := 305 }) (R : kR z (some .int) 0 0 (kPi (mW (zg z) a E) Q)) (h : wX5_added4_5 Q l1 σ) : kV z (mW (zg z) a E σ) 0 0 5 [(0, .ref (a 0)), (1, .int l1)] [] := by
  unfold wX5_added4_5 at h
  refine h (fun σ l1 => kV z (mW (zg z) a E σ) 0 0 5 [(0, .ref (a 0)), (1, .int l1)] []) (fun σ l1 h => ?_)
  refine g_aload_n F dX5_added4_5 0 rfl ?_
  refine g_bipush (v := (43 : Int32)) F dX5_added4_6 (by decide) ?_
  refine rX5_X5_isSign F dX5_added4_8 rfl h (fun r4 s3 h => ?_)
  refine g_if_ne F dX5_added4_11 (tgt := 23) (by decide) (fun c5 => ?_) (fun c5 => ?_)
  · replace h := h.1 c5
    exact (sX5_added4_23 F R (fun _ _ h => h) h)
  replace h := h.2 c5
  refine g_aload_n F dX5_added4_14 0 rfl ?_
  refine g_bipush (v := (45 : Int32)) F dX5_added4_15 (by decide) ?_
  refine rX5_X5_isSign F dX5_added4_17 rfl h (fun r7 s6 h => ?_)
  refine g_if_eq F dX5_added4_20 (tgt := 66) (by decide) (fun c8 => ?_) (fun c8 => ?_)
  · replace h := h.1 c8
    refine g_iload_n F dX5_added4_66 1 rfl ?_
    exact g_iret F R rfl rfl dX5_added4_67 ⟨_, _, rfl, rfl, h⟩
  replace h := h.2 c8
  exact (sX5_added4_23 F R (fun _ _ h => h) h)
set_option maxRecDepth 20000 in
theorem ctX5_added4 (l : Launch) (g : kG) (A : Nat → Prop) (a : Nat → Nat) (E : va_W) {σ : kS} {Q : Int32 → kS → Prop} (h : wX5_added4 σ Q) : kCt l yX5_added4 cX5_added4 4 (some .int) 12 305 0 0 g A [.ref (a 0)] (mW g a E σ) (kPi (mW g a E) Q) := by
  refine kCt.of (lv0 := [(0, .ref (a 0))]) (by decide +kernel) (Nat.le_of_ble_eq_true rfl) rfl (fun z hl hg hA F R => ?_)
  subst hl hg hA
  have F : kF z cX5_added4 RX5 4 { frames := 12, cells := 0, slots := 0, locals := 305 } := F
  unfold wX5_added4 at h
  refine g_aload_n F dX5_added4_0 0 rfl ?_
  refine rX5_X5_term4 F dX5_added4_1 rfl h (fun r2 s1 h => ?_)
  refine g_istore_n (lv' := [(1, .int r2), (0, .ref (a 0))]) F dX5_added4_4 rfl rfl ?_
  exact g_sub [1, 0] rfl (sX5_added4_5 F R h)
theorem plX5_added4 : kPlain yX5_added4 0 = true := by decide +kernel
theorem rX5_X5_added4 {z : kZ} {cc : ByteArray} {nL : Nat} {rm : Room} {c n pc : Nat} {lv : List (Nat × Value)} {st : List Value} {a : Nat → Nat} {E : va_W} {σ : kS} {Q : Int32 → kS → Prop} (F : kF z cc RX5 nL rm) (hd : decode cc pc = .ok (.invokevirtual 243, 3)) (hf : kFits rm 12 305 0 0 4 c n st = true) (h : wX5_added4 σ Q) (k : ∀ (v : Int32) (σ' : kS), Q v σ' → kV z (mW (zg z) a E σ') c n (pc + 3) lv (.int v :: st)) : kV z (mW (zg z) a E σ) c n pc lv (.ref (a 0) :: st) := by
  exact g_callV F (av := []) (ctX5_added4 _ _ _ a E h) (ci := 5) (q0 := 0) rfl rfl rfl wq1083 wq1085 wq67 wq114 wq1086 plX5_added4 hd hf (fun r ws' hq => by
    obtain ⟨v, σ', rfl, rfl, hq⟩ := hq
    exact k v σ' hq)
set_option maxRecDepth 20000 in
theorem sX5_not4_93 {z : kZ} {a : Nat → Nat} {E : va_W}  {Q : Int32 → kS → Prop} {l1 : Int32} {ks0 : Int32} {σ : kS} (F : kF z cX5_not4 RX5 4 { frames := 13, cells := 0, slots := 0, locals := 328 }) (R : kR z (some .int) 0 0 (kPi (mW (zg z) a E) Q)) (h : wX5_not4_93 Q l1 ks0 σ) : kV z (mW (zg z) a E σ) 0 0 93 [(0, .ref (a 0)), (1, .int l1)] [.int ks0] := by
  unfold wX5_not4_93 at h
  refine g_istore_n (lv' := [(2, .int ks0), (0, .ref (a 0)), (1, .int l1)]) F dX5_not4_93 rfl rfl ?_
  refine g_aload_n F dX5_not4_94 1 rfl ?_
  refine rX5_X5_next F dX5_not4_95 rfl h (fun s20 h => ?_)
  refine g_aload_n F dX5_not4_98 1 rfl ?_
  refine rX5_X5_added4 F dX5_not4_99 rfl h (fun r22 s21 h => ?_)
  refine g_istore_n (lv' := [(3, .int r22), (2, .int ks0), (0, .ref (a 0)), (1, .int l1)]) F dX5_not4_102 rfl rfl ?_
  refine g_iload_n F dX5_not4_103 1 rfl ?_
  refine g_if_eq F dX5_not4_104 (tgt := 115) (by decide) (fun c23 => ?_) (fun c23 => ?_)
  · replace h := h.1 c23
    refine g_iload_n F dX5_not4_115 3 rfl ?_
    refine g_iload_n F dX5_not4_116 0 rfl ?_
    refine g_icmp_ne F dX5_not4_117 (tgt := 124) (by decide) (fun c24 => ?_) (fun c24 => ?_)
    · replace h := h.1 c24
      refine g_iconst (v := (0 : Int32)) F dX5_not4_124 (by decide) ?_
      exact g_iret F R rfl rfl dX5_not4_125 ⟨_, _, rfl, rfl, h⟩
    replace h := h.2 c24
    refine g_iconst (v := (1 : Int32)) F dX5_not4_120 (by decide) ?_
    refine g_goto F dX5_not4_121 (tgt := 125) (by decide) ?_
    exact g_iret F R rfl rfl dX5_not4_125 ⟨_, _, rfl, rfl, h⟩
  replace h := h.2 c23
  refine g_iload_n F dX5_not4_107 3 rfl ?_
  refine g_iload_n F dX5_not4_108 0 rfl ?_
  refine g_icmp_ge F dX5_not4_109 (tgt := 124) (by decide) (fun c25 => ?_) (fun c25 => ?_)
  · replace h := h.1 c25
    refine g_iconst (v := (0 : Int32)) F dX5_not4_124 (by decide) ?_
    exact g_iret F R rfl rfl dX5_not4_125 ⟨_, _, rfl, rfl, h⟩
  replace h := h.2 c25
  refine g_goto F dX5_not4_112 (tgt := 120) (by decide) ?_
  refine g_iconst (v := (1 : Int32)) F dX5_not4_120 (by decide) ?_
  refine g_goto F dX5_not4_121 (tgt := 125) (by decide) ?_
  exact g_iret F R rfl rfl dX5_not4_125 ⟨_, _, rfl, rfl, h⟩
set_option maxRecDepth 20000 in
theorem sX5_not4_77 {z : kZ} {a : Nat → Nat} {E : va_W}  {Q : Int32 → kS → Prop} {l1 : Int32} {σ : kS} (F : kF z cX5_not4 RX5 4 { frames := 13, cells := 0, slots := 0, locals := 328 }) (R : kR z (some .int) 0 0 (kPi (mW (zg z) a E) Q)) (h : wX5_not4_77 Q l1 σ) : kV z (mW (zg z) a E σ) 0 0 77 [(0, .ref (a 0)), (1, .int l1)] [] := by
  unfold wX5_not4_77 at h
  refine g_aload_n F dX5_not4_77 0 rfl ?_
  refine rgX5_X5_tokenWorth F dX5_not4_78 ?_
  refine g_ldc2 (v := (60 : Int64)) F dX5_not4_81 wq1082 ?_
  refine g_lcmp F dX5_not4_84 ?_
  refine g_if_ne F dX5_not4_85 (tgt := 92) (by decide) (fun c19 => ?_) (fun c19 => ?_)
  · replace h := h.1 c19
    refine g_iconst (v := (0 : Int32)) F dX5_not4_92 (by decide) ?_
    exact (sX5_not4_93 F R h)
  replace h := h.2 c19
  refine g_iconst (v := (1 : Int32)) F dX5_not4_88 (by decide) ?_
  refine g_goto F dX5_not4_89 (tgt := 93) (by decide) ?_
  exact (sX5_not4_93 F R h)
set_option maxRecDepth 20000 in
theorem ctX5_not4 (l : Launch) (g : kG) (A : Nat → Prop) (a : Nat → Nat) (E : va_W) {σ : kS} {Q : Int32 → kS → Prop} (h : wX5_not4 σ Q) : kCt l yX5_not4 cX5_not4 4 (some .int) 13 328 0 0 g A [.ref (a 0)] (mW g a E σ) (kPi (mW g a E) Q) := by
  refine kCt.of (lv0 := [(0, .ref (a 0))]) (by decide +kernel) (Nat.le_of_ble_eq_true rfl) rfl (fun z hl hg hA F R => ?_)
  subst hl hg hA
  have F : kF z cX5_not4 RX5 4 { frames := 13, cells := 0, slots := 0, locals := 328 } := F
  unfold wX5_not4 at h
  refine g_aload_n F dX5_not4_0 0 rfl ?_
  refine g_bipush (v := (110 : Int32)) F dX5_not4_1 (by decide) ?_
  refine g_bipush (v := (111 : Int32)) F dX5_not4_3 (by decide) ?_
  refine g_bipush (v := (116 : Int32)) F dX5_not4_5 (by decide) ?_
  refine g_iconst (v := (0 : Int32)) F dX5_not4_7 (by decide) ?_
  refine g_iconst (v := (0 : Int32)) F dX5_not4_8 (by decide) ?_
  refine g_iconst (v := (0 : Int32)) F dX5_not4_9 (by decide) ?_
  refine g_iconst (v := (0 : Int32)) F dX5_not4_10 (by decide) ?_
  refine g_iconst (v := (0 : Int32)) F dX5_not4_11 (by decide) ?_
  refine rX5_X5_isWord F dX5_not4_12 rfl h (fun r2 s1 h => ?_)
  refine g_if_eq F dX5_not4_15 (tgt := 52) (by decide) (fun c3 => ?_) (fun c3 => ?_)
  · replace h := h.1 c3
    refine g_aload_n F dX5_not4_52 0 rfl ?_
    refine rX5_X5_added4 F dX5_not4_53 rfl h (fun r5 s4 h => ?_)
    refine g_istore_n (lv' := [(1, .int r5), (0, .ref (a 0))]) F dX5_not4_56 rfl rfl ?_
    refine g_aload_n F dX5_not4_57 1 rfl ?_
    refine g_bipush (v := (60 : Int32)) F dX5_not4_58 (by decide) ?_
    refine rX5_X5_isSign F dX5_not4_60 rfl h (fun r7 s6 h => ?_)
    refine g_if_ne F dX5_not4_63 (tgt := 77) (by decide) (fun c8 => ?_) (fun c8 => ?_)
    · replace h := h.1 c8
      exact g_sub [1, 0] rfl (sX5_not4_77 F R h)
    replace h := h.2 c8
    refine g_aload_n F dX5_not4_66 1 rfl ?_
    refine g_bipush (v := (61 : Int32)) F dX5_not4_67 (by decide) ?_
    refine rX5_X5_isSign F dX5_not4_69 rfl h (fun r10 s9 h => ?_)
    refine g_if_ne F dX5_not4_72 (tgt := 77) (by decide) (fun c11 => ?_) (fun c11 => ?_)
    · replace h := h.1 c11
      exact g_sub [1, 0] rfl (sX5_not4_77 F R h)
    replace h := h.2 c11
    refine g_iload_n F dX5_not4_75 0 rfl ?_
    exact g_iret F R rfl rfl dX5_not4_76 ⟨_, _, rfl, rfl, h⟩
  replace h := h.2 c3
  refine g_aload_n F dX5_not4_18 0 rfl ?_
  refine rX5_X5_opens F dX5_not4_19 rfl h (fun r13 s12 h => ?_)
  refine g_if_ne F dX5_not4_22 (tgt := 27) (by decide) (fun c14 => ?_) (fun c14 => ?_)
  · replace h := h.1 c14
    refine g_aload_n F dX5_not4_27 0 rfl ?_
    refine rX5_X5_not5 F dX5_not4_28 rfl h (fun r16 s15 h => ?_)
    refine g_istore_n (lv' := [(1, .int r16), (0, .ref (a 0))]) F dX5_not4_31 rfl rfl ?_
    refine g_aload_n F dX5_not4_32 1 rfl ?_
    refine g_dup F dX5_not4_33 rfl ?_
    refine rgX5_X5_open F dX5_not4_34 ?_
    refine g_iconst (v := (1 : Int32)) F dX5_not4_37 (by decide) ?_
    refine g_isub F dX5_not4_38 ?_
    refine rpX5_X5_open F dX5_not4_39 ?_
    refine g_name (wf := mW (zg z) a E) (fun s17 es17 => ?_)
    replace h := h s17 es17
    refine g_iload_n F dX5_not4_42 0 rfl ?_
    refine g_if_ne F dX5_not4_43 (tgt := 50) (by decide) (fun c18 => ?_) (fun c18 => ?_)
    · replace h := h.1 c18
      refine g_iconst (v := (0 : Int32)) F dX5_not4_50 (by decide) ?_
      exact g_iret F R rfl rfl dX5_not4_51 ⟨_, _, rfl, rfl, h⟩
    replace h := h.2 c18
    refine g_iconst (v := (1 : Int32)) F dX5_not4_46 (by decide) ?_
    refine g_goto F dX5_not4_47 (tgt := 51) (by decide) ?_
    exact g_iret F R rfl rfl dX5_not4_51 ⟨_, _, rfl, rfl, h⟩
  replace h := h.2 c14
  refine g_iconst (v := (0 : Int32)) F dX5_not4_25 (by decide) ?_
  exact g_iret F R rfl rfl dX5_not4_26 ⟨_, _, rfl, rfl, h⟩
theorem plX5_not4 : kPlain yX5_not4 0 = true := by decide +kernel
theorem rX5_X5_not4 {z : kZ} {cc : ByteArray} {nL : Nat} {rm : Room} {c n pc : Nat} {lv : List (Nat × Value)} {st : List Value} {a : Nat → Nat} {E : va_W} {σ : kS} {Q : Int32 → kS → Prop} (F : kF z cc RX5 nL rm) (hd : decode cc pc = .ok (.invokevirtual 246, 3)) (hf : kFits rm 13 328 0 0 4 c n st = true) (h : wX5_not4 σ Q) (k : ∀ (v : Int32) (σ' : kS), Q v σ' → kV z (mW (zg z) a E σ') c n (pc + 3) lv (.int v :: st)) : kV z (mW (zg z) a E σ) c n pc lv (.ref (a 0) :: st) := by
  exact g_callV F (av := []) (ctX5_not4 _ _ _ a E h) (ci := 5) (q0 := 0) rfl rfl rfl wq1053 wq1055 wq60 wq114 wq1056 plX5_not4 hd hf (fun r ws' hq => by
    obtain ⟨v, σ', rfl, rfl, hq⟩ := hq
    exact k v σ' hq)
set_option maxRecDepth 20000 in
theorem sX5_both4_5 {z : kZ} {a : Nat → Nat} {E : va_W}  {Q : Int32 → kS → Prop} {l1 : Int32} {σ : kS} (F : kF z cX5_both4 RX5 3 { frames := 14, cells := 0, slots := 0, locals := 351 }) (R : kR z (some .int) 0 0 (kPi (mW (zg z) a E) Q)) (h : wX5_both4_5 Q l1 σ) : kV z (mW (zg z) a E σ) 0 0 5 [(0, .ref (a 0)), (1, .int l1)] [] := by
  unfold wX5_both4_5 at h
  refine h (fun σ l1 => kV z (mW (zg z) a E σ) 0 0 5 [(0, .ref (a 0)), (1, .int l1)] []) (fun σ l1 h => ?_)
  refine g_aload_n F dX5_both4_5 0 rfl ?_
  refine g_bipush (v := (97 : Int32)) F dX5_both4_6 (by decide) ?_
  refine g_bipush (v := (110 : Int32)) F dX5_both4_8 (by decide) ?_
  refine g_bipush (v := (100 : Int32)) F dX5_both4_10 (by decide) ?_
  refine g_iconst (v := (0 : Int32)) F dX5_both4_12 (by decide) ?_
  refine g_iconst (v := (0 : Int32)) F dX5_both4_13 (by decide) ?_
  refine g_iconst (v := (0 : Int32)) F dX5_both4_14 (by decide) ?_
  refine g_iconst (v := (0 : Int32)) F dX5_both4_15 (by decide) ?_
  refine g_iconst (v := (0 : Int32)) F dX5_both4_16 (by decide) ?_
  refine rX5_X5_isWord F dX5_both4_17 rfl h (fun r4 s3 h => ?_)
  refine g_if_eq F dX5_both4_20 (tgt := 49) (by decide) (fun c5 => ?_) (fun c5 => ?_)
  · replace h := h.1 c5
    refine g_iload_n F dX5_both4_49 1 rfl ?_
    exact g_iret F R rfl rfl dX5_both4_50 ⟨_, _, rfl, rfl, h⟩
  replace h := h.2 c5
  refine g_aload_n F dX5_both4_23 0 rfl ?_
  refine rX5_X5_next F dX5_both4_24 rfl h (fun s6 h => ?_)
  refine g_aload_n F dX5_both4_27 0 rfl ?_
  refine rX5_X5_not4 F dX5_both4_28 rfl h (fun r8 s7 h => ?_)
  refine g_istore_n (lv' := [(2, .int r8), (0, .ref (a 0)), (1, .int l1)]) F dX5_both4_31 rfl rfl ?_
  refine g_iload_n F dX5_both4_32 2 rfl ?_
  refine g_if_eq F dX5_both4_33 (tgt := 44) (by decide) (fun c9 => ?_) (fun c9 => ?_)
  · replace h := h.1 c9
    refine g_iconst (v := (0 : Int32)) F dX5_both4_44 (by decide) ?_
    refine g_istore_n (lv' := [(1, .int (0 : Int32)), (2, .int r8), (0, .ref (a 0))]) F dX5_both4_45 rfl rfl ?_
    refine g_goto F dX5_both4_46 (tgt := 5) (by decide) ?_
    exact (g_sub [2, 0] rfl h)
  replace h := h.2 c9
  refine g_iload_n F dX5_both4_36 0 rfl ?_
  refine g_if_eq F dX5_both4_37 (tgt := 44) (by decide) (fun c10 => ?_) (fun c10 => ?_)
  · replace h := h.1 c10
    refine g_iconst (v := (0 : Int32)) F dX5_both4_44 (by decide) ?_
    refine g_istore_n (lv' := [(1, .int (0 : Int32)), (2, .int r8), (0, .ref (a 0))]) F dX5_both4_45 rfl rfl ?_
    refine g_goto F dX5_both4_46 (tgt := 5) (by decide) ?_
    exact (g_sub [2, 0] rfl h)
  replace h := h.2 c10
  refine g_iconst (v := (1 : Int32)) F dX5_both4_40 (by decide) ?_
  refine g_goto F dX5_both4_41 (tgt := 45) (by decide) ?_
  refine g_istore_n (lv' := [(1, .int (1 : Int32)), (2, .int r8), (0, .ref (a 0))]) F dX5_both4_45 rfl rfl ?_
  refine g_goto F dX5_both4_46 (tgt := 5) (by decide) ?_
  exact (g_sub [2, 0] rfl h)
set_option maxRecDepth 20000 in
theorem ctX5_both4 (l : Launch) (g : kG) (A : Nat → Prop) (a : Nat → Nat) (E : va_W) {σ : kS} {Q : Int32 → kS → Prop} (h : wX5_both4 σ Q) : kCt l yX5_both4 cX5_both4 3 (some .int) 14 351 0 0 g A [.ref (a 0)] (mW g a E σ) (kPi (mW g a E) Q) := by
  refine kCt.of (lv0 := [(0, .ref (a 0))]) (by decide +kernel) (Nat.le_of_ble_eq_true rfl) rfl (fun z hl hg hA F R => ?_)
  subst hl hg hA
  have F : kF z cX5_both4 RX5 3 { frames := 14, cells := 0, slots := 0, locals := 351 } := F
  unfold wX5_both4 at h
  refine g_aload_n F dX5_both4_0 0 rfl ?_
  refine rX5_X5_not4 F dX5_both4_1 rfl h (fun r2 s1 h => ?_)
  refine g_istore_n (lv' := [(1, .int r2), (0, .ref (a 0))]) F dX5_both4_4 rfl rfl ?_
  exact g_sub [1, 0] rfl (sX5_both4_5 F R h)
theorem plX5_both4 : kPlain yX5_both4 0 = true := by decide +kernel
theorem rX5_X5_both4 {z : kZ} {cc : ByteArray} {nL : Nat} {rm : Room} {c n pc : Nat} {lv : List (Nat × Value)} {st : List Value} {a : Nat → Nat} {E : va_W} {σ : kS} {Q : Int32 → kS → Prop} (F : kF z cc RX5 nL rm) (hd : decode cc pc = .ok (.invokevirtual 249, 3)) (hf : kFits rm 14 351 0 0 3 c n st = true) (h : wX5_both4 σ Q) (k : ∀ (v : Int32) (σ' : kS), Q v σ' → kV z (mW (zg z) a E σ') c n (pc + 3) lv (.int v :: st)) : kV z (mW (zg z) a E σ) c n pc lv (.ref (a 0) :: st) := by
  exact g_callV F (av := []) (ctX5_both4 _ _ _ a E h) (ci := 5) (q0 := 0) rfl rfl rfl wq1119 wq1121 wq76 wq114 wq1122 plX5_both4 hd hf (fun r ws' hq => by
    obtain ⟨v, σ', rfl, rfl, hq⟩ := hq
    exact k v σ' hq)
set_option maxRecDepth 20000 in
theorem sX5_either4_5 {z : kZ} {a : Nat → Nat} {E : va_W}  {Q : Int32 → kS → Prop} {l1 : Int32} {σ : kS} (F : kF z cX5_either4 RX5 3 { frames := 15, cells := 0, slots := 0, locals := 373 }) (R : kR z (some .int) 0 0 (kPi (mW (zg z) a E) Q)) (h : wX5_either4_5 Q l1 σ) : kV z (mW (zg z) a E σ) 0 0 5 [(0, .ref (a 0)), (1, .int l1)] [] := by
  unfold wX5_either4_5 at h
  refine h (fun σ l1 => kV z (mW (zg z) a E σ) 0 0 5 [(0, .ref (a 0)), (1, .int l1)] []) (fun σ l1 h => ?_)
  refine g_aload_n F dX5_either4_5 0 rfl ?_
  refine g_bipush (v := (111 : Int32)) F dX5_either4_6 (by decide) ?_
  refine g_bipush (v := (114 : Int32)) F dX5_either4_8 (by decide) ?_
  refine g_iconst (v := (0 : Int32)) F dX5_either4_10 (by decide) ?_
  refine g_iconst (v := (0 : Int32)) F dX5_either4_11 (by decide) ?_
  refine g_iconst (v := (0 : Int32)) F dX5_either4_12 (by decide) ?_
  refine g_iconst (v := (0 : Int32)) F dX5_either4_13 (by decide) ?_
  refine g_iconst (v := (0 : Int32)) F dX5_either4_14 (by decide) ?_
  refine g_iconst (v := (0 : Int32)) F dX5_either4_15 (by decide) ?_
  refine rX5_X5_isWord F dX5_either4_16 rfl h (fun r4 s3 h => ?_)
  refine g_if_eq F dX5_either4_19 (tgt := 48) (by decide) (fun c5 => ?_) (fun c5 => ?_)
  · replace h := h.1 c5
    refine g_iload_n F dX5_either4_48 1 rfl ?_
    exact g_iret F R rfl rfl dX5_either4_49 ⟨_, _, rfl, rfl, h⟩
  replace h := h.2 c5
  refine g_aload_n F dX5_either4_22 0 rfl ?_
  refine rX5_X5_next F dX5_either4_23 rfl h (fun s6 h => ?_)
  refine g_aload_n F dX5_either4_26 0 rfl ?_
  refine rX5_X5_both4 F dX5_either4_27 rfl h (fun r8 s7 h => ?_)
  refine g_istore_n (lv' := [(2, .int r8), (0, .ref (a 0)), (1, .int l1)]) F dX5_either4_30 rfl rfl ?_
  refine g_iload_n F dX5_either4_31 2 rfl ?_
  refine g_if_ne F dX5_either4_32 (tgt := 39) (by decide) (fun c9 => ?_) (fun c9 => ?_)
  · replace h := h.1 c9
    refine g_iconst (v := (1 : Int32)) F dX5_either4_39 (by decide) ?_
    refine g_goto F dX5_either4_40 (tgt := 44) (by decide) ?_
    refine g_istore_n (lv' := [(1, .int (1 : Int32)), (2, .int r8), (0, .ref (a 0))]) F dX5_either4_44 rfl rfl ?_
    refine g_goto F dX5_either4_45 (tgt := 5) (by decide) ?_
    exact (g_sub [2, 0] rfl h)
  replace h := h.2 c9
  refine g_iload_n F dX5_either4_35 0 rfl ?_
  refine g_if_eq F dX5_either4_36 (tgt := 43) (by decide) (fun c10 => ?_) (fun c10 => ?_)
  · replace h := h.1 c10
    refine g_iconst (v := (0 : Int32)) F dX5_either4_43 (by decide) ?_
    refine g_istore_n (lv' := [(1, .int (0 : Int32)), (2, .int r8), (0, .ref (a 0))]) F dX5_either4_44 rfl rfl ?_
    refine g_goto F dX5_either4_45 (tgt := 5) (by decide) ?_
    exact (g_sub [2, 0] rfl h)
  replace h := h.2 c10
  refine g_iconst (v := (1 : Int32)) F dX5_either4_39 (by decide) ?_
  refine g_goto F dX5_either4_40 (tgt := 44) (by decide) ?_
  refine g_istore_n (lv' := [(1, .int (1 : Int32)), (2, .int r8), (0, .ref (a 0))]) F dX5_either4_44 rfl rfl ?_
  refine g_goto F dX5_either4_45 (tgt := 5) (by decide) ?_
  exact (g_sub [2, 0] rfl h)
set_option maxRecDepth 20000 in
theorem ctX5_either4 (l : Launch) (g : kG) (A : Nat → Prop) (a : Nat → Nat) (E : va_W) {σ : kS} {Q : Int32 → kS → Prop} (h : wX5_either4 σ Q) : kCt l yX5_either4 cX5_either4 3 (some .int) 15 373 0 0 g A [.ref (a 0)] (mW g a E σ) (kPi (mW g a E) Q) := by
  refine kCt.of (lv0 := [(0, .ref (a 0))]) (by decide +kernel) (Nat.le_of_ble_eq_true rfl) rfl (fun z hl hg hA F R => ?_)
  subst hl hg hA
  have F : kF z cX5_either4 RX5 3 { frames := 15, cells := 0, slots := 0, locals := 373 } := F
  unfold wX5_either4 at h
  refine g_aload_n F dX5_either4_0 0 rfl ?_
  refine rX5_X5_both4 F dX5_either4_1 rfl h (fun r2 s1 h => ?_)
  refine g_istore_n (lv' := [(1, .int r2), (0, .ref (a 0))]) F dX5_either4_4 rfl rfl ?_
  exact g_sub [1, 0] rfl (sX5_either4_5 F R h)
theorem plX5_either4 : kPlain yX5_either4 0 = true := by decide +kernel
theorem rX5_X5_either4 {z : kZ} {cc : ByteArray} {nL : Nat} {rm : Room} {c n pc : Nat} {lv : List (Nat × Value)} {st : List Value} {a : Nat → Nat} {E : va_W} {σ : kS} {Q : Int32 → kS → Prop} (F : kF z cc RX5 nL rm) (hd : decode cc pc = .ok (.invokevirtual 252, 3)) (hf : kFits rm 15 373 0 0 3 c n st = true) (h : wX5_either4 σ Q) (k : ∀ (v : Int32) (σ' : kS), Q v σ' → kV z (mW (zg z) a E σ') c n (pc + 3) lv (.int v :: st)) : kV z (mW (zg z) a E σ) c n pc lv (.ref (a 0) :: st) := by
  exact g_callV F (av := []) (ctX5_either4 _ _ _ a E h) (ci := 5) (q0 := 0) rfl rfl rfl wq1115 wq1117 wq75 wq114 wq1118 plX5_either4 hd hf (fun r ws' hq => by
    obtain ⟨v, σ', rfl, rfl, hq⟩ := hq
    exact k v σ' hq)
set_option maxRecDepth 20000 in
theorem sX5_atom3_157 {z : kZ} {a : Nat → Nat} {E : va_W}  {Q : Int32 → kS → Prop} {l1 : Int32} {σ : kS} (F : kF z cX5_atom3 RX5 2 { frames := 16, cells := 0, slots := 0, locals := 395 }) (R : kR z (some .int) 0 0 (kPi (mW (zg z) a E) Q)) (h : wX5_atom3_157 Q l1 σ) : kV z (mW (zg z) a E σ) 0 0 157 [(0, .ref (a 0)), (1, .int l1)] [] := by
  unfold wX5_atom3_157 at h
  refine g_aload_n F dX5_atom3_157 0 rfl ?_
  refine rX5_X5_fail F dX5_atom3_158 rfl h (fun s36 h => ?_)
  refine g_iload_n F dX5_atom3_161 1 rfl ?_
  exact g_iret F R rfl rfl dX5_atom3_162 ⟨_, _, rfl, rfl, h⟩
set_option maxRecDepth 20000 in
theorem sX5_atom3_123 {z : kZ} {a : Nat → Nat} {E : va_W}  {Q : Int32 → kS → Prop} {l1 : Int32} {σ : kS} (F : kF z cX5_atom3 RX5 2 { frames := 16, cells := 0, slots := 0, locals := 395 }) (R : kR z (some .int) 0 0 (kPi (mW (zg z) a E) Q)) (h : wX5_atom3_123 Q l1 σ) : kV z (mW (zg z) a E σ) 0 0 123 [(0, .ref (a 0)), (1, .int l1)] [] := by
  unfold wX5_atom3_123 at h
  refine g_aload_n F dX5_atom3_123 0 rfl ?_
  refine rgX5_X5_bad F dX5_atom3_124 ?_
  refine g_if_ne F dX5_atom3_127 (tgt := 157) (by decide) (fun c27 => ?_) (fun c27 => ?_)
  · replace h := h.1 c27
    exact (sX5_atom3_157 F R h)
  replace h := h.2 c27
  refine g_aload_n F dX5_atom3_130 0 rfl ?_
  refine rgX5_X5_token F dX5_atom3_131 ?_
  refine g_iconst (v := (1 : Int32)) F dX5_atom3_134 (by decide) ?_
  refine g_icmp_ne F dX5_atom3_135 (tgt := 157) (by decide) (fun c28 => ?_) (fun c28 => ?_)
  · replace h := h.1 c28
    exact (sX5_atom3_157 F R h)
  replace h := h.2 c28
  refine g_aload_n F dX5_atom3_138 0 rfl ?_
  refine rX5_X5_name F dX5_atom3_139 rfl h (fun r30 s29 h => ?_)
  refine g_istore_n (lv' := [(1, .int r30), (0, .ref (a 0))]) F dX5_atom3_142 rfl rfl ?_
  refine g_aload_n F dX5_atom3_143 1 rfl ?_
  refine rgX5_X5_bad F dX5_atom3_144 ?_
  refine g_if_ne F dX5_atom3_147 (tgt := 161) (by decide) (fun c31 => ?_) (fun c31 => ?_)
  · replace h := h.1 c31
    refine g_iload_n F dX5_atom3_161 0 rfl ?_
    exact g_iret F R rfl rfl dX5_atom3_162 ⟨_, _, rfl, rfl, h⟩
  replace h := h.2 c31
  refine g_aload_n F dX5_atom3_150 1 rfl ?_
  refine rX5_X5_next F dX5_atom3_151 rfl h (fun s32 h => ?_)
  refine g_goto F dX5_atom3_154 (tgt := 161) (by decide) ?_
  refine g_iload_n F dX5_atom3_161 0 rfl ?_
  exact g_iret F R rfl rfl dX5_atom3_162 ⟨_, _, rfl, rfl, h⟩
set_option maxRecDepth 20000 in
theorem sX5_atom3_71 {z : kZ} {a : Nat → Nat} {E : va_W}  {Q : Int32 → kS → Prop} {l1 : Int32} {σ : kS} (F : kF z cX5_atom3 RX5 2 { frames := 16, cells := 0, slots := 0, locals := 395 }) (R : kR z (some .int) 0 0 (kPi (mW (zg z) a E) Q)) (h : wX5_atom3_71 Q l1 σ) : kV z (mW (zg z) a E σ) 0 0 71 [(0, .ref (a 0)), (1, .int l1)] [] := by
  unfold wX5_atom3_71 at h
  refine g_aload_n F dX5_atom3_71 0 rfl ?_
  refine g_dup F dX5_atom3_72 rfl ?_
  refine rgX5_X5_open F dX5_atom3_73 ?_
  refine g_iconst (v := (1 : Int32)) F dX5_atom3_76 (by decide) ?_
  refine g_isub F dX5_atom3_77 ?_
  refine rpX5_X5_open F dX5_atom3_78 ?_
  refine g_name (wf := mW (zg z) a E) (fun s33 es33 => ?_)
  replace h := h s33 es33
  refine g_aload_n F dX5_atom3_81 0 rfl ?_
  refine rgX5_X5_bad F dX5_atom3_82 ?_
  refine g_if_ne F dX5_atom3_85 (tgt := 161) (by decide) (fun c34 => ?_) (fun c34 => ?_)
  · replace h := h.1 c34
    refine g_iload_n F dX5_atom3_161 1 rfl ?_
    exact g_iret F R rfl rfl dX5_atom3_162 ⟨_, _, rfl, rfl, h⟩
  replace h := h.2 c34
  refine g_aload_n F dX5_atom3_88 0 rfl ?_
  refine rX5_X5_next F dX5_atom3_89 rfl h (fun s35 h => ?_)
  refine g_goto F dX5_atom3_92 (tgt := 161) (by decide) ?_
  refine g_iload_n F dX5_atom3_161 1 rfl ?_
  exact g_iret F R rfl rfl dX5_atom3_162 ⟨_, _, rfl, rfl, h⟩
set_option maxRecDepth 20000 in
theorem ctX5_atom3 (l : Launch) (g : kG) (A : Nat → Prop) (a : Nat → Nat) (E : va_W) {σ : kS} {Q : Int32 → kS → Prop} (h : wX5_atom3 σ Q) : kCt l yX5_atom3 cX5_atom3 2 (some .int) 16 395 0 0 g A [.ref (a 0)] (mW g a E σ) (kPi (mW g a E) Q) := by
  refine kCt.of (lv0 := [(0, .ref (a 0))]) (by decide +kernel) (Nat.le_of_ble_eq_true rfl) rfl (fun z hl hg hA F R => ?_)
  subst hl hg hA
  have F : kF z cX5_atom3 RX5 2 { frames := 16, cells := 0, slots := 0, locals := 395 } := F
  unfold wX5_atom3 at h
  refine g_iconst (v := (0 : Int32)) F dX5_atom3_0 (by decide) ?_
  refine g_istore_n (lv' := [(1, .int (0 : Int32)), (0, .ref (a 0))]) F dX5_atom3_1 rfl rfl ?_
  refine g_aload_n F dX5_atom3_2 1 rfl ?_
  refine g_bipush (v := (45 : Int32)) F dX5_atom3_3 (by decide) ?_
  refine rX5_X5_isSign F dX5_atom3_5 rfl h (fun r2 s1 h => ?_)
  refine g_if_eq F dX5_atom3_8 (tgt := 37) (by decide) (fun c3 => ?_) (fun c3 => ?_)
  · replace h := h.1 c3
    refine g_aload_n F dX5_atom3_37 1 rfl ?_
    refine g_bipush (v := (40 : Int32)) F dX5_atom3_38 (by decide) ?_
    refine rX5_X5_isSign F dX5_atom3_40 rfl h (fun r5 s4 h => ?_)
    refine g_if_eq F dX5_atom3_43 (tgt := 95) (by decide) (fun c6 => ?_) (fun c6 => ?_)
    · replace h := h.1 c6
      refine g_aload_n F dX5_atom3_95 1 rfl ?_
      refine rgX5_X5_bad F dX5_atom3_96 ?_
      refine g_if_ne F dX5_atom3_99 (tgt := 123) (by decide) (fun c7 => ?_) (fun c7 => ?_)
      · replace h := h.1 c7
        exact g_sub [1, 0] rfl (sX5_atom3_123 F R h)
      replace h := h.2 c7
      refine g_aload_n F dX5_atom3_102 1 rfl ?_
      refine rgX5_X5_token F dX5_atom3_103 ?_
      refine g_iconst (v := (2 : Int32)) F dX5_atom3_106 (by decide) ?_
      refine g_icmp_ne F dX5_atom3_107 (tgt := 123) (by decide) (fun c8 => ?_) (fun c8 => ?_)
      · replace h := h.1 c8
        exact g_sub [1, 0] rfl (sX5_atom3_123 F R h)
      replace h := h.2 c8
      refine g_aload_n F dX5_atom3_110 1 rfl ?_
      refine rgX5_X5_tokenWorth F dX5_atom3_111 ?_
      refine g_l2i F dX5_atom3_114 ?_
      refine g_topi (fun x9 ex9 => ?_)
      replace h := h x9 ex9
      refine g_istore_n (lv' := [(1, .int x9), (0, .ref (a 0))]) F dX5_atom3_115 rfl rfl ?_
      refine g_aload_n F dX5_atom3_116 1 rfl ?_
      refine rX5_X5_next F dX5_atom3_117 rfl h (fun s10 h => ?_)
      refine g_goto F dX5_atom3_120 (tgt := 161) (by decide) ?_
      refine g_iload_n F dX5_atom3_161 0 rfl ?_
      exact g_iret F R rfl rfl dX5_atom3_162 ⟨_, _, rfl, rfl, h⟩
    replace h := h.2 c6
    refine g_aload_n F dX5_atom3_46 1 rfl ?_
    refine rX5_X5_opens F dX5_atom3_47 rfl h (fun r12 s11 h => ?_)
    refine g_if_eq F dX5_atom3_50 (tgt := 161) (by decide) (fun c13 => ?_) (fun c13 => ?_)
    · replace h := h.1 c13
      refine g_iload_n F dX5_atom3_161 0 rfl ?_
      exact g_iret F R rfl rfl dX5_atom3_162 ⟨_, _, rfl, rfl, h⟩
    replace h := h.2 c13
    refine g_aload_n F dX5_atom3_53 1 rfl ?_
    refine rX5_X5_either4 F dX5_atom3_54 rfl h (fun r15 s14 h => ?_)
    refine g_istore_n (lv' := [(1, .int r15), (0, .ref (a 0))]) F dX5_atom3_57 rfl rfl ?_
    refine g_aload_n F dX5_atom3_58 1 rfl ?_
    refine g_bipush (v := (41 : Int32)) F dX5_atom3_59 (by decide) ?_
    refine rX5_X5_isSign F dX5_atom3_61 rfl h (fun r17 s16 h => ?_)
    refine g_if_ne F dX5_atom3_64 (tgt := 71) (by decide) (fun c18 => ?_) (fun c18 => ?_)
    · replace h := h.1 c18
      exact g_sub [1, 0] rfl (sX5_atom3_71 F R h)
    replace h := h.2 c18
    refine g_aload_n F dX5_atom3_67 1 rfl ?_
    refine rX5_X5_fail F dX5_atom3_68 rfl h (fun s19 h => ?_)
    exact g_sub [1, 0] rfl (sX5_atom3_71 F R h)
  replace h := h.2 c3
  refine g_aload_n F dX5_atom3_11 1 rfl ?_
  refine rX5_X5_opens F dX5_atom3_12 rfl h (fun r21 s20 h => ?_)
  refine g_if_eq F dX5_atom3_15 (tgt := 161) (by decide) (fun c22 => ?_) (fun c22 => ?_)
  · replace h := h.1 c22
    refine g_iload_n F dX5_atom3_161 0 rfl ?_
    exact g_iret F R rfl rfl dX5_atom3_162 ⟨_, _, rfl, rfl, h⟩
  replace h := h.2 c22
  refine g_aload_n F dX5_atom3_18 1 rfl ?_
  refine rX5_X5_atom4 F dX5_atom3_19 rfl h (fun r24 s23 h => ?_)
  refine g_ineg F dX5_atom3_22 ?_
  refine g_topi (fun x25 ex25 => ?_)
  replace h := h x25 ex25
  refine g_istore_n (lv' := [(1, .int x25), (0, .ref (a 0))]) F dX5_atom3_23 rfl rfl ?_
  refine g_aload_n F dX5_atom3_24 1 rfl ?_
  refine g_dup F dX5_atom3_25 rfl ?_
  refine rgX5_X5_open F dX5_atom3_26 ?_
  refine g_iconst (v := (1 : Int32)) F dX5_atom3_29 (by decide) ?_
  refine g_isub F dX5_atom3_30 ?_
  refine rpX5_X5_open F dX5_atom3_31 ?_
  refine g_name (wf := mW (zg z) a E) (fun s26 es26 => ?_)
  replace h := h s26 es26
  refine g_goto F dX5_atom3_34 (tgt := 161) (by decide) ?_
  refine g_iload_n F dX5_atom3_161 0 rfl ?_
  exact g_iret F R rfl rfl dX5_atom3_162 ⟨_, _, rfl, rfl, h⟩
theorem plX5_atom3 : kPlain yX5_atom3 0 = true := by decide +kernel
theorem rX5_X5_atom3 {z : kZ} {cc : ByteArray} {nL : Nat} {rm : Room} {c n pc : Nat} {lv : List (Nat × Value)} {st : List Value} {a : Nat → Nat} {E : va_W} {σ : kS} {Q : Int32 → kS → Prop} (F : kF z cc RX5 nL rm) (hd : decode cc pc = .ok (.invokevirtual 255, 3)) (hf : kFits rm 16 395 0 0 2 c n st = true) (h : wX5_atom3 σ Q) (k : ∀ (v : Int32) (σ' : kS), Q v σ' → kV z (mW (zg z) a E σ') c n (pc + 3) lv (.int v :: st)) : kV z (mW (zg z) a E σ) c n pc lv (.ref (a 0) :: st) := by
  exact g_callV F (av := []) (ctX5_atom3 _ _ _ a E h) (ci := 5) (q0 := 0) rfl rfl rfl wq1111 wq1113 wq74 wq114 wq1114 plX5_atom3 hd hf (fun r ws' hq => by
    obtain ⟨v, σ', rfl, rfl, hq⟩ := hq
    exact k v σ' hq)
set_option maxRecDepth 20000 in
theorem sX5_term3_5 {z : kZ} {a : Nat → Nat} {E : va_W}  {Q : Int32 → kS → Prop} {l1 : Int32} {σ : kS} (F : kF z cX5_term3 RX5 2 { frames := 17, cells := 0, slots := 0, locals := 416 }) (R : kR z (some .int) 0 0 (kPi (mW (zg z) a E) Q)) (h : wX5_term3_5 Q l1 σ) : kV z (mW (zg z) a E σ) 0 0 5 [(0, .ref (a 0)), (1, .int l1)] [] := by
  unfold wX5_term3_5 at h
  refine h (fun σ l1 => kV z (mW (zg z) a E σ) 0 0 5 [(0, .ref (a 0)), (1, .int l1)] []) (fun σ l1 h => ?_)
  refine g_aload_n F dX5_term3_5 0 rfl ?_
  refine g_bipush (v := (42 : Int32)) F dX5_term3_6 (by decide) ?_
  refine rX5_X5_isSign F dX5_term3_8 rfl h (fun r4 s3 h => ?_)
  refine g_if_eq F dX5_term3_11 (tgt := 28) (by decide) (fun c5 => ?_) (fun c5 => ?_)
  · replace h := h.1 c5
    refine g_iload_n F dX5_term3_28 1 rfl ?_
    exact g_iret F R rfl rfl dX5_term3_29 ⟨_, _, rfl, rfl, h⟩
  replace h := h.2 c5
  refine g_aload_n F dX5_term3_14 0 rfl ?_
  refine rX5_X5_next F dX5_term3_15 rfl h (fun s6 h => ?_)
  refine g_iload_n F dX5_term3_18 1 rfl ?_
  refine g_aload_n F dX5_term3_19 0 rfl ?_
  refine rX5_X5_atom3 F dX5_term3_20 rfl h (fun r8 s7 h => ?_)
  refine g_imul F dX5_term3_23 ?_
  refine g_topi (fun x9 ex9 => ?_)
  replace h := h x9 ex9
  refine g_istore_n (lv' := [(1, .int x9), (0, .ref (a 0))]) F dX5_term3_24 rfl rfl ?_
  refine g_goto F dX5_term3_25 (tgt := 5) (by decide) ?_
  exact (g_sub [1, 0] rfl h)
set_option maxRecDepth 20000 in
theorem ctX5_term3 (l : Launch) (g : kG) (A : Nat → Prop) (a : Nat → Nat) (E : va_W) {σ : kS} {Q : Int32 → kS → Prop} (h : wX5_term3 σ Q) : kCt l yX5_term3 cX5_term3 2 (some .int) 17 416 0 0 g A [.ref (a 0)] (mW g a E σ) (kPi (mW g a E) Q) := by
  refine kCt.of (lv0 := [(0, .ref (a 0))]) (by decide +kernel) (Nat.le_of_ble_eq_true rfl) rfl (fun z hl hg hA F R => ?_)
  subst hl hg hA
  have F : kF z cX5_term3 RX5 2 { frames := 17, cells := 0, slots := 0, locals := 416 } := F
  unfold wX5_term3 at h
  refine g_aload_n F dX5_term3_0 0 rfl ?_
  refine rX5_X5_atom3 F dX5_term3_1 rfl h (fun r2 s1 h => ?_)
  refine g_istore_n (lv' := [(1, .int r2), (0, .ref (a 0))]) F dX5_term3_4 rfl rfl ?_
  exact g_sub [1, 0] rfl (sX5_term3_5 F R h)
theorem plX5_term3 : kPlain yX5_term3 0 = true := by decide +kernel
theorem rX5_X5_term3 {z : kZ} {cc : ByteArray} {nL : Nat} {rm : Room} {c n pc : Nat} {lv : List (Nat × Value)} {st : List Value} {a : Nat → Nat} {E : va_W} {σ : kS} {Q : Int32 → kS → Prop} (F : kF z cc RX5 nL rm) (hd : decode cc pc = .ok (.invokevirtual 258, 3)) (hf : kFits rm 17 416 0 0 2 c n st = true) (h : wX5_term3 σ Q) (k : ∀ (v : Int32) (σ' : kS), Q v σ' → kV z (mW (zg z) a E σ') c n (pc + 3) lv (.int v :: st)) : kV z (mW (zg z) a E σ) c n pc lv (.ref (a 0) :: st) := by
  exact g_callV F (av := []) (ctX5_term3 _ _ _ a E h) (ci := 5) (q0 := 0) rfl rfl rfl wq1107 wq1109 wq73 wq114 wq1110 plX5_term3 hd hf (fun r ws' hq => by
    obtain ⟨v, σ', rfl, rfl, hq⟩ := hq
    exact k v σ' hq)
set_option maxRecDepth 20000 in
theorem sX5_added3_39 {z : kZ} {a : Nat → Nat} {E : va_W}  {Q : Int32 → kS → Prop} {P5 : kS → Int32 → Prop} {l1 : Int32} {ks0 : Int32} {σ : kS} (F : kF z cX5_added3 RX5 4 { frames := 18, cells := 0, slots := 0, locals := 437 }) (R : kR z (some .int) 0 0 (kPi (mW (zg z) a E) Q)) (hP5 : ∀ (σ : kS) (l1 : Int32), P5 σ l1 → kV z (mW (zg z) a E σ) 0 0 5 [(0, .ref (a 0)), (1, .int l1)] []) (h : wX5_added3_39 Q P5 l1 ks0 σ) : kV z (mW (zg z) a E σ) 0 0 39 [(0, .ref (a 0)), (1, .int l1)] [.int ks0] := by
  unfold wX5_added3_39 at h
  refine g_istore_n (lv' := [(2, .int ks0), (0, .ref (a 0)), (1, .int l1)]) F dX5_added3_39 rfl rfl ?_
  refine g_aload_n F dX5_added3_40 1 rfl ?_
  refine rX5_X5_next F dX5_added3_41 rfl h (fun s10 h => ?_)
  refine g_aload_n F dX5_added3_44 1 rfl ?_
  refine rX5_X5_term3 F dX5_added3_45 rfl h (fun r12 s11 h => ?_)
  refine g_istore_n (lv' := [(3, .int r12), (2, .int ks0), (0, .ref (a 0)), (1, .int l1)]) F dX5_added3_48 rfl rfl ?_
  refine g_iload_n F dX5_added3_49 1 rfl ?_
  refine g_if_eq F dX5_added3_50 (tgt := 59) (by decide) (fun c13 => ?_) (fun c13 => ?_)
  · replace h := h.1 c13
    refine g_iload_n F dX5_added3_59 3 rfl ?_
    refine g_iload_n F dX5_added3_60 0 rfl ?_
    refine g_isub F dX5_added3_61 ?_
    refine g_topi (fun x14 ex14 => ?_)
    replace h := h x14 ex14
    refine g_istore_n (lv' := [(1, .int x14), (3, .int r12), (2, .int ks0), (0, .ref (a 0))]) F dX5_added3_62 rfl rfl ?_
    refine g_goto F dX5_added3_63 (tgt := 5) (by decide) ?_
    exact g_sub [3, 0] rfl (hP5 _ _ h)
  replace h := h.2 c13
  refine g_iload_n F dX5_added3_53 3 rfl ?_
  refine g_iload_n F dX5_added3_54 0 rfl ?_
  refine g_iadd F dX5_added3_55 ?_
  refine g_goto F dX5_added3_56 (tgt := 62) (by decide) ?_
  refine g_topi (fun x15 ex15 => ?_)
  replace h := h x15 ex15
  refine g_istore_n (lv' := [(1, .int x15), (3, .int r12), (2, .int ks0), (0, .ref (a 0))]) F dX5_added3_62 rfl rfl ?_
  refine g_goto F dX5_added3_63 (tgt := 5) (by decide) ?_
  exact g_sub [3, 0] rfl (hP5 _ _ h)
set_option maxRecDepth 20000 in
theorem sX5_added3_23 {z : kZ} {a : Nat → Nat} {E : va_W}  {Q : Int32 → kS → Prop} {P5 : kS → Int32 → Prop} {l1 : Int32} {σ : kS} (F : kF z cX5_added3 RX5 4 { frames := 18, cells := 0, slots := 0, locals := 437 }) (R : kR z (some .int) 0 0 (kPi (mW (zg z) a E) Q)) (hP5 : ∀ (σ : kS) (l1 : Int32), P5 σ l1 → kV z (mW (zg z) a E σ) 0 0 5 [(0, .ref (a 0)), (1, .int l1)] []) (h : wX5_added3_23 Q P5 l1 σ) : kV z (mW (zg z) a E σ) 0 0 23 [(0, .ref (a 0)), (1, .int l1)] [] := by
  unfold wX5_added3_23 at h
  refine g_aload_n F dX5_added3_23 0 rfl ?_
  refine rgX5_X5_tokenWorth F dX5_added3_24 ?_
  refine g_ldc2 (v := (43 : Int64)) F dX5_added3_27 wq1081 ?_
  refine g_lcmp F dX5_added3_30 ?_
  refine g_if_ne F dX5_added3_31 (tgt := 38) (by decide) (fun c9 => ?_) (fun c9 => ?_)
  · replace h := h.1 c9
    refine g_iconst (v := (0 : Int32)) F dX5_added3_38 (by decide) ?_
    exact (sX5_added3_39 F R hP5 h)
  replace h := h.2 c9
  refine g_iconst (v := (1 : Int32)) F dX5_added3_34 (by decide) ?_
  refine g_goto F dX5_added3_35 (tgt := 39) (by decide) ?_
  exact (sX5_added3_39 F R hP5 h)
set_option maxRecDepth 20000 in
theorem sX5_added3_5 {z : kZ} {a : Nat → Nat} {E : va_W}  {Q : Int32 → kS → Prop} {l1 : Int32} {σ : kS} (F : kF z cX5_added3 RX5 4 { frames := 18, cells := 0, slots := 0, locals := 437 }) (R : kR z (some .int) 0 0 (kPi (mW (zg z) a E) Q)) (h : wX5_added3_5 Q l1 σ) : kV z (mW (zg z) a E σ) 0 0 5 [(0, .ref (a 0)), (1, .int l1)] [] := by
  unfold wX5_added3_5 at h
  refine h (fun σ l1 => kV z (mW (zg z) a E σ) 0 0 5 [(0, .ref (a 0)), (1, .int l1)] []) (fun σ l1 h => ?_)
  refine g_aload_n F dX5_added3_5 0 rfl ?_
  refine g_bipush (v := (43 : Int32)) F dX5_added3_6 (by decide) ?_
  refine rX5_X5_isSign F dX5_added3_8 rfl h (fun r4 s3 h => ?_)
  refine g_if_ne F dX5_added3_11 (tgt := 23) (by decide) (fun c5 => ?_) (fun c5 => ?_)
  · replace h := h.1 c5
    exact (sX5_added3_23 F R (fun _ _ h => h) h)
  replace h := h.2 c5
  refine g_aload_n F dX5_added3_14 0 rfl ?_
  refine g_bipush (v := (45 : Int32)) F dX5_added3_15 (by decide) ?_
  refine rX5_X5_isSign F dX5_added3_17 rfl h (fun r7 s6 h => ?_)
  refine g_if_eq F dX5_added3_20 (tgt := 66) (by decide) (fun c8 => ?_) (fun c8 => ?_)
  · replace h := h.1 c8
    refine g_iload_n F dX5_added3_66 1 rfl ?_
    exact g_iret F R rfl rfl dX5_added3_67 ⟨_, _, rfl, rfl, h⟩
  replace h := h.2 c8
  exact (sX5_added3_23 F R (fun _ _ h => h) h)
set_option maxRecDepth 20000 in
theorem ctX5_added3 (l : Launch) (g : kG) (A : Nat → Prop) (a : Nat → Nat) (E : va_W) {σ : kS} {Q : Int32 → kS → Prop} (h : wX5_added3 σ Q) : kCt l yX5_added3 cX5_added3 4 (some .int) 18 437 0 0 g A [.ref (a 0)] (mW g a E σ) (kPi (mW g a E) Q) := by
  refine kCt.of (lv0 := [(0, .ref (a 0))]) (by decide +kernel) (Nat.le_of_ble_eq_true rfl) rfl (fun z hl hg hA F R => ?_)
  subst hl hg hA
  have F : kF z cX5_added3 RX5 4 { frames := 18, cells := 0, slots := 0, locals := 437 } := F
  unfold wX5_added3 at h
  refine g_aload_n F dX5_added3_0 0 rfl ?_
  refine rX5_X5_term3 F dX5_added3_1 rfl h (fun r2 s1 h => ?_)
  refine g_istore_n (lv' := [(1, .int r2), (0, .ref (a 0))]) F dX5_added3_4 rfl rfl ?_
  exact g_sub [1, 0] rfl (sX5_added3_5 F R h)
theorem plX5_added3 : kPlain yX5_added3 0 = true := by decide +kernel
theorem rX5_X5_added3 {z : kZ} {cc : ByteArray} {nL : Nat} {rm : Room} {c n pc : Nat} {lv : List (Nat × Value)} {st : List Value} {a : Nat → Nat} {E : va_W} {σ : kS} {Q : Int32 → kS → Prop} (F : kF z cc RX5 nL rm) (hd : decode cc pc = .ok (.invokevirtual 261, 3)) (hf : kFits rm 18 437 0 0 4 c n st = true) (h : wX5_added3 σ Q) (k : ∀ (v : Int32) (σ' : kS), Q v σ' → kV z (mW (zg z) a E σ') c n (pc + 3) lv (.int v :: st)) : kV z (mW (zg z) a E σ) c n pc lv (.ref (a 0) :: st) := by
  exact g_callV F (av := []) (ctX5_added3 _ _ _ a E h) (ci := 5) (q0 := 0) rfl rfl rfl wq1103 wq1105 wq72 wq114 wq1106 plX5_added3 hd hf (fun r ws' hq => by
    obtain ⟨v, σ', rfl, rfl, hq⟩ := hq
    exact k v σ' hq)
set_option maxRecDepth 20000 in
theorem sX5_not3_93 {z : kZ} {a : Nat → Nat} {E : va_W}  {Q : Int32 → kS → Prop} {l1 : Int32} {ks0 : Int32} {σ : kS} (F : kF z cX5_not3 RX5 4 { frames := 19, cells := 0, slots := 0, locals := 460 }) (R : kR z (some .int) 0 0 (kPi (mW (zg z) a E) Q)) (h : wX5_not3_93 Q l1 ks0 σ) : kV z (mW (zg z) a E σ) 0 0 93 [(0, .ref (a 0)), (1, .int l1)] [.int ks0] := by
  unfold wX5_not3_93 at h
  refine g_istore_n (lv' := [(2, .int ks0), (0, .ref (a 0)), (1, .int l1)]) F dX5_not3_93 rfl rfl ?_
  refine g_aload_n F dX5_not3_94 1 rfl ?_
  refine rX5_X5_next F dX5_not3_95 rfl h (fun s20 h => ?_)
  refine g_aload_n F dX5_not3_98 1 rfl ?_
  refine rX5_X5_added3 F dX5_not3_99 rfl h (fun r22 s21 h => ?_)
  refine g_istore_n (lv' := [(3, .int r22), (2, .int ks0), (0, .ref (a 0)), (1, .int l1)]) F dX5_not3_102 rfl rfl ?_
  refine g_iload_n F dX5_not3_103 1 rfl ?_
  refine g_if_eq F dX5_not3_104 (tgt := 115) (by decide) (fun c23 => ?_) (fun c23 => ?_)
  · replace h := h.1 c23
    refine g_iload_n F dX5_not3_115 3 rfl ?_
    refine g_iload_n F dX5_not3_116 0 rfl ?_
    refine g_icmp_ne F dX5_not3_117 (tgt := 124) (by decide) (fun c24 => ?_) (fun c24 => ?_)
    · replace h := h.1 c24
      refine g_iconst (v := (0 : Int32)) F dX5_not3_124 (by decide) ?_
      exact g_iret F R rfl rfl dX5_not3_125 ⟨_, _, rfl, rfl, h⟩
    replace h := h.2 c24
    refine g_iconst (v := (1 : Int32)) F dX5_not3_120 (by decide) ?_
    refine g_goto F dX5_not3_121 (tgt := 125) (by decide) ?_
    exact g_iret F R rfl rfl dX5_not3_125 ⟨_, _, rfl, rfl, h⟩
  replace h := h.2 c23
  refine g_iload_n F dX5_not3_107 3 rfl ?_
  refine g_iload_n F dX5_not3_108 0 rfl ?_
  refine g_icmp_ge F dX5_not3_109 (tgt := 124) (by decide) (fun c25 => ?_) (fun c25 => ?_)
  · replace h := h.1 c25
    refine g_iconst (v := (0 : Int32)) F dX5_not3_124 (by decide) ?_
    exact g_iret F R rfl rfl dX5_not3_125 ⟨_, _, rfl, rfl, h⟩
  replace h := h.2 c25
  refine g_goto F dX5_not3_112 (tgt := 120) (by decide) ?_
  refine g_iconst (v := (1 : Int32)) F dX5_not3_120 (by decide) ?_
  refine g_goto F dX5_not3_121 (tgt := 125) (by decide) ?_
  exact g_iret F R rfl rfl dX5_not3_125 ⟨_, _, rfl, rfl, h⟩
set_option maxRecDepth 20000 in
theorem sX5_not3_77 {z : kZ} {a : Nat → Nat} {E : va_W}  {Q : Int32 → kS → Prop} {l1 : Int32} {σ : kS} (F : kF z cX5_not3 RX5 4 { frames := 19, cells := 0, slots := 0, locals := 460 }) (R : kR z (some .int) 0 0 (kPi (mW (zg z) a E) Q)) (h : wX5_not3_77 Q l1 σ) : kV z (mW (zg z) a E σ) 0 0 77 [(0, .ref (a 0)), (1, .int l1)] [] := by
  unfold wX5_not3_77 at h
  refine g_aload_n F dX5_not3_77 0 rfl ?_
  refine rgX5_X5_tokenWorth F dX5_not3_78 ?_
  refine g_ldc2 (v := (60 : Int64)) F dX5_not3_81 wq1082 ?_
  refine g_lcmp F dX5_not3_84 ?_
  refine g_if_ne F dX5_not3_85 (tgt := 92) (by decide) (fun c19 => ?_) (fun c19 => ?_)
  · replace h := h.1 c19
    refine g_iconst (v := (0 : Int32)) F dX5_not3_92 (by decide) ?_
    exact (sX5_not3_93 F R h)
  replace h := h.2 c19
  refine g_iconst (v := (1 : Int32)) F dX5_not3_88 (by decide) ?_
  refine g_goto F dX5_not3_89 (tgt := 93) (by decide) ?_
  exact (sX5_not3_93 F R h)
set_option maxRecDepth 20000 in
theorem ctX5_not3 (l : Launch) (g : kG) (A : Nat → Prop) (a : Nat → Nat) (E : va_W) {σ : kS} {Q : Int32 → kS → Prop} (h : wX5_not3 σ Q) : kCt l yX5_not3 cX5_not3 4 (some .int) 19 460 0 0 g A [.ref (a 0)] (mW g a E σ) (kPi (mW g a E) Q) := by
  refine kCt.of (lv0 := [(0, .ref (a 0))]) (by decide +kernel) (Nat.le_of_ble_eq_true rfl) rfl (fun z hl hg hA F R => ?_)
  subst hl hg hA
  have F : kF z cX5_not3 RX5 4 { frames := 19, cells := 0, slots := 0, locals := 460 } := F
  unfold wX5_not3 at h
  refine g_aload_n F dX5_not3_0 0 rfl ?_
  refine g_bipush (v := (110 : Int32)) F dX5_not3_1 (by decide) ?_
  refine g_bipush (v := (111 : Int32)) F dX5_not3_3 (by decide) ?_
  refine g_bipush (v := (116 : Int32)) F dX5_not3_5 (by decide) ?_
  refine g_iconst (v := (0 : Int32)) F dX5_not3_7 (by decide) ?_
  refine g_iconst (v := (0 : Int32)) F dX5_not3_8 (by decide) ?_
  refine g_iconst (v := (0 : Int32)) F dX5_not3_9 (by decide) ?_
  refine g_iconst (v := (0 : Int32)) F dX5_not3_10 (by decide) ?_
  refine g_iconst (v := (0 : Int32)) F dX5_not3_11 (by decide) ?_
  refine rX5_X5_isWord F dX5_not3_12 rfl h (fun r2 s1 h => ?_)
  refine g_if_eq F dX5_not3_15 (tgt := 52) (by decide) (fun c3 => ?_) (fun c3 => ?_)
  · replace h := h.1 c3
    refine g_aload_n F dX5_not3_52 0 rfl ?_
    refine rX5_X5_added3 F dX5_not3_53 rfl h (fun r5 s4 h => ?_)
    refine g_istore_n (lv' := [(1, .int r5), (0, .ref (a 0))]) F dX5_not3_56 rfl rfl ?_
    refine g_aload_n F dX5_not3_57 1 rfl ?_
    refine g_bipush (v := (60 : Int32)) F dX5_not3_58 (by decide) ?_
    refine rX5_X5_isSign F dX5_not3_60 rfl h (fun r7 s6 h => ?_)
    refine g_if_ne F dX5_not3_63 (tgt := 77) (by decide) (fun c8 => ?_) (fun c8 => ?_)
    · replace h := h.1 c8
      exact g_sub [1, 0] rfl (sX5_not3_77 F R h)
    replace h := h.2 c8
    refine g_aload_n F dX5_not3_66 1 rfl ?_
    refine g_bipush (v := (61 : Int32)) F dX5_not3_67 (by decide) ?_
    refine rX5_X5_isSign F dX5_not3_69 rfl h (fun r10 s9 h => ?_)
    refine g_if_ne F dX5_not3_72 (tgt := 77) (by decide) (fun c11 => ?_) (fun c11 => ?_)
    · replace h := h.1 c11
      exact g_sub [1, 0] rfl (sX5_not3_77 F R h)
    replace h := h.2 c11
    refine g_iload_n F dX5_not3_75 0 rfl ?_
    exact g_iret F R rfl rfl dX5_not3_76 ⟨_, _, rfl, rfl, h⟩
  replace h := h.2 c3
  refine g_aload_n F dX5_not3_18 0 rfl ?_
  refine rX5_X5_opens F dX5_not3_19 rfl h (fun r13 s12 h => ?_)
  refine g_if_ne F dX5_not3_22 (tgt := 27) (by decide) (fun c14 => ?_) (fun c14 => ?_)
  · replace h := h.1 c14
    refine g_aload_n F dX5_not3_27 0 rfl ?_
    refine rX5_X5_not4 F dX5_not3_28 rfl h (fun r16 s15 h => ?_)
    refine g_istore_n (lv' := [(1, .int r16), (0, .ref (a 0))]) F dX5_not3_31 rfl rfl ?_
    refine g_aload_n F dX5_not3_32 1 rfl ?_
    refine g_dup F dX5_not3_33 rfl ?_
    refine rgX5_X5_open F dX5_not3_34 ?_
    refine g_iconst (v := (1 : Int32)) F dX5_not3_37 (by decide) ?_
    refine g_isub F dX5_not3_38 ?_
    refine rpX5_X5_open F dX5_not3_39 ?_
    refine g_name (wf := mW (zg z) a E) (fun s17 es17 => ?_)
    replace h := h s17 es17
    refine g_iload_n F dX5_not3_42 0 rfl ?_
    refine g_if_ne F dX5_not3_43 (tgt := 50) (by decide) (fun c18 => ?_) (fun c18 => ?_)
    · replace h := h.1 c18
      refine g_iconst (v := (0 : Int32)) F dX5_not3_50 (by decide) ?_
      exact g_iret F R rfl rfl dX5_not3_51 ⟨_, _, rfl, rfl, h⟩
    replace h := h.2 c18
    refine g_iconst (v := (1 : Int32)) F dX5_not3_46 (by decide) ?_
    refine g_goto F dX5_not3_47 (tgt := 51) (by decide) ?_
    exact g_iret F R rfl rfl dX5_not3_51 ⟨_, _, rfl, rfl, h⟩
  replace h := h.2 c14
  refine g_iconst (v := (0 : Int32)) F dX5_not3_25 (by decide) ?_
  exact g_iret F R rfl rfl dX5_not3_26 ⟨_, _, rfl, rfl, h⟩
theorem plX5_not3 : kPlain yX5_not3 0 = true := by decide +kernel
theorem rX5_X5_not3 {z : kZ} {cc : ByteArray} {nL : Nat} {rm : Room} {c n pc : Nat} {lv : List (Nat × Value)} {st : List Value} {a : Nat → Nat} {E : va_W} {σ : kS} {Q : Int32 → kS → Prop} (F : kF z cc RX5 nL rm) (hd : decode cc pc = .ok (.invokevirtual 264, 3)) (hf : kFits rm 19 460 0 0 4 c n st = true) (h : wX5_not3 σ Q) (k : ∀ (v : Int32) (σ' : kS), Q v σ' → kV z (mW (zg z) a E σ') c n (pc + 3) lv (.int v :: st)) : kV z (mW (zg z) a E σ) c n pc lv (.ref (a 0) :: st) := by
  exact g_callV F (av := []) (ctX5_not3 _ _ _ a E h) (ci := 5) (q0 := 0) rfl rfl rfl wq1049 wq1051 wq59 wq114 wq1052 plX5_not3 hd hf (fun r ws' hq => by
    obtain ⟨v, σ', rfl, rfl, hq⟩ := hq
    exact k v σ' hq)
set_option maxRecDepth 20000 in
theorem sX5_both3_5 {z : kZ} {a : Nat → Nat} {E : va_W}  {Q : Int32 → kS → Prop} {l1 : Int32} {σ : kS} (F : kF z cX5_both3 RX5 3 { frames := 20, cells := 0, slots := 0, locals := 483 }) (R : kR z (some .int) 0 0 (kPi (mW (zg z) a E) Q)) (h : wX5_both3_5 Q l1 σ) : kV z (mW (zg z) a E σ) 0 0 5 [(0, .ref (a 0)), (1, .int l1)] [] := by
  unfold wX5_both3_5 at h
  refine h (fun σ l1 => kV z (mW (zg z) a E σ) 0 0 5 [(0, .ref (a 0)), (1, .int l1)] []) (fun σ l1 h => ?_)
  refine g_aload_n F dX5_both3_5 0 rfl ?_
  refine g_bipush (v := (97 : Int32)) F dX5_both3_6 (by decide) ?_
  refine g_bipush (v := (110 : Int32)) F dX5_both3_8 (by decide) ?_
  refine g_bipush (v := (100 : Int32)) F dX5_both3_10 (by decide) ?_
  refine g_iconst (v := (0 : Int32)) F dX5_both3_12 (by decide) ?_
  refine g_iconst (v := (0 : Int32)) F dX5_both3_13 (by decide) ?_
  refine g_iconst (v := (0 : Int32)) F dX5_both3_14 (by decide) ?_
  refine g_iconst (v := (0 : Int32)) F dX5_both3_15 (by decide) ?_
  refine g_iconst (v := (0 : Int32)) F dX5_both3_16 (by decide) ?_
  refine rX5_X5_isWord F dX5_both3_17 rfl h (fun r4 s3 h => ?_)
  refine g_if_eq F dX5_both3_20 (tgt := 49) (by decide) (fun c5 => ?_) (fun c5 => ?_)
  · replace h := h.1 c5
    refine g_iload_n F dX5_both3_49 1 rfl ?_
    exact g_iret F R rfl rfl dX5_both3_50 ⟨_, _, rfl, rfl, h⟩
  replace h := h.2 c5
  refine g_aload_n F dX5_both3_23 0 rfl ?_
  refine rX5_X5_next F dX5_both3_24 rfl h (fun s6 h => ?_)
  refine g_aload_n F dX5_both3_27 0 rfl ?_
  refine rX5_X5_not3 F dX5_both3_28 rfl h (fun r8 s7 h => ?_)
  refine g_istore_n (lv' := [(2, .int r8), (0, .ref (a 0)), (1, .int l1)]) F dX5_both3_31 rfl rfl ?_
  refine g_iload_n F dX5_both3_32 2 rfl ?_
  refine g_if_eq F dX5_both3_33 (tgt := 44) (by decide) (fun c9 => ?_) (fun c9 => ?_)
  · replace h := h.1 c9
    refine g_iconst (v := (0 : Int32)) F dX5_both3_44 (by decide) ?_
    refine g_istore_n (lv' := [(1, .int (0 : Int32)), (2, .int r8), (0, .ref (a 0))]) F dX5_both3_45 rfl rfl ?_
    refine g_goto F dX5_both3_46 (tgt := 5) (by decide) ?_
    exact (g_sub [2, 0] rfl h)
  replace h := h.2 c9
  refine g_iload_n F dX5_both3_36 0 rfl ?_
  refine g_if_eq F dX5_both3_37 (tgt := 44) (by decide) (fun c10 => ?_) (fun c10 => ?_)
  · replace h := h.1 c10
    refine g_iconst (v := (0 : Int32)) F dX5_both3_44 (by decide) ?_
    refine g_istore_n (lv' := [(1, .int (0 : Int32)), (2, .int r8), (0, .ref (a 0))]) F dX5_both3_45 rfl rfl ?_
    refine g_goto F dX5_both3_46 (tgt := 5) (by decide) ?_
    exact (g_sub [2, 0] rfl h)
  replace h := h.2 c10
  refine g_iconst (v := (1 : Int32)) F dX5_both3_40 (by decide) ?_
  refine g_goto F dX5_both3_41 (tgt := 45) (by decide) ?_
  refine g_istore_n (lv' := [(1, .int (1 : Int32)), (2, .int r8), (0, .ref (a 0))]) F dX5_both3_45 rfl rfl ?_
  refine g_goto F dX5_both3_46 (tgt := 5) (by decide) ?_
  exact (g_sub [2, 0] rfl h)
set_option maxRecDepth 20000 in
theorem ctX5_both3 (l : Launch) (g : kG) (A : Nat → Prop) (a : Nat → Nat) (E : va_W) {σ : kS} {Q : Int32 → kS → Prop} (h : wX5_both3 σ Q) : kCt l yX5_both3 cX5_both3 3 (some .int) 20 483 0 0 g A [.ref (a 0)] (mW g a E σ) (kPi (mW g a E) Q) := by
  refine kCt.of (lv0 := [(0, .ref (a 0))]) (by decide +kernel) (Nat.le_of_ble_eq_true rfl) rfl (fun z hl hg hA F R => ?_)
  subst hl hg hA
  have F : kF z cX5_both3 RX5 3 { frames := 20, cells := 0, slots := 0, locals := 483 } := F
  unfold wX5_both3 at h
  refine g_aload_n F dX5_both3_0 0 rfl ?_
  refine rX5_X5_not3 F dX5_both3_1 rfl h (fun r2 s1 h => ?_)
  refine g_istore_n (lv' := [(1, .int r2), (0, .ref (a 0))]) F dX5_both3_4 rfl rfl ?_
  exact g_sub [1, 0] rfl (sX5_both3_5 F R h)
theorem plX5_both3 : kPlain yX5_both3 0 = true := by decide +kernel
theorem rX5_X5_both3 {z : kZ} {cc : ByteArray} {nL : Nat} {rm : Room} {c n pc : Nat} {lv : List (Nat × Value)} {st : List Value} {a : Nat → Nat} {E : va_W} {σ : kS} {Q : Int32 → kS → Prop} (F : kF z cc RX5 nL rm) (hd : decode cc pc = .ok (.invokevirtual 267, 3)) (hf : kFits rm 20 483 0 0 3 c n st = true) (h : wX5_both3 σ Q) (k : ∀ (v : Int32) (σ' : kS), Q v σ' → kV z (mW (zg z) a E σ') c n (pc + 3) lv (.int v :: st)) : kV z (mW (zg z) a E σ) c n pc lv (.ref (a 0) :: st) := by
  exact g_callV F (av := []) (ctX5_both3 _ _ _ a E h) (ci := 5) (q0 := 0) rfl rfl rfl wq1139 wq1141 wq81 wq114 wq1142 plX5_both3 hd hf (fun r ws' hq => by
    obtain ⟨v, σ', rfl, rfl, hq⟩ := hq
    exact k v σ' hq)
set_option maxRecDepth 20000 in
theorem sX5_either3_5 {z : kZ} {a : Nat → Nat} {E : va_W}  {Q : Int32 → kS → Prop} {l1 : Int32} {σ : kS} (F : kF z cX5_either3 RX5 3 { frames := 21, cells := 0, slots := 0, locals := 505 }) (R : kR z (some .int) 0 0 (kPi (mW (zg z) a E) Q)) (h : wX5_either3_5 Q l1 σ) : kV z (mW (zg z) a E σ) 0 0 5 [(0, .ref (a 0)), (1, .int l1)] [] := by
  unfold wX5_either3_5 at h
  refine h (fun σ l1 => kV z (mW (zg z) a E σ) 0 0 5 [(0, .ref (a 0)), (1, .int l1)] []) (fun σ l1 h => ?_)
  refine g_aload_n F dX5_either3_5 0 rfl ?_
  refine g_bipush (v := (111 : Int32)) F dX5_either3_6 (by decide) ?_
  refine g_bipush (v := (114 : Int32)) F dX5_either3_8 (by decide) ?_
  refine g_iconst (v := (0 : Int32)) F dX5_either3_10 (by decide) ?_
  refine g_iconst (v := (0 : Int32)) F dX5_either3_11 (by decide) ?_
  refine g_iconst (v := (0 : Int32)) F dX5_either3_12 (by decide) ?_
  refine g_iconst (v := (0 : Int32)) F dX5_either3_13 (by decide) ?_
  refine g_iconst (v := (0 : Int32)) F dX5_either3_14 (by decide) ?_
  refine g_iconst (v := (0 : Int32)) F dX5_either3_15 (by decide) ?_
  refine rX5_X5_isWord F dX5_either3_16 rfl h (fun r4 s3 h => ?_)
  refine g_if_eq F dX5_either3_19 (tgt := 48) (by decide) (fun c5 => ?_) (fun c5 => ?_)
  · replace h := h.1 c5
    refine g_iload_n F dX5_either3_48 1 rfl ?_
    exact g_iret F R rfl rfl dX5_either3_49 ⟨_, _, rfl, rfl, h⟩
  replace h := h.2 c5
  refine g_aload_n F dX5_either3_22 0 rfl ?_
  refine rX5_X5_next F dX5_either3_23 rfl h (fun s6 h => ?_)
  refine g_aload_n F dX5_either3_26 0 rfl ?_
  refine rX5_X5_both3 F dX5_either3_27 rfl h (fun r8 s7 h => ?_)
  refine g_istore_n (lv' := [(2, .int r8), (0, .ref (a 0)), (1, .int l1)]) F dX5_either3_30 rfl rfl ?_
  refine g_iload_n F dX5_either3_31 2 rfl ?_
  refine g_if_ne F dX5_either3_32 (tgt := 39) (by decide) (fun c9 => ?_) (fun c9 => ?_)
  · replace h := h.1 c9
    refine g_iconst (v := (1 : Int32)) F dX5_either3_39 (by decide) ?_
    refine g_goto F dX5_either3_40 (tgt := 44) (by decide) ?_
    refine g_istore_n (lv' := [(1, .int (1 : Int32)), (2, .int r8), (0, .ref (a 0))]) F dX5_either3_44 rfl rfl ?_
    refine g_goto F dX5_either3_45 (tgt := 5) (by decide) ?_
    exact (g_sub [2, 0] rfl h)
  replace h := h.2 c9
  refine g_iload_n F dX5_either3_35 0 rfl ?_
  refine g_if_eq F dX5_either3_36 (tgt := 43) (by decide) (fun c10 => ?_) (fun c10 => ?_)
  · replace h := h.1 c10
    refine g_iconst (v := (0 : Int32)) F dX5_either3_43 (by decide) ?_
    refine g_istore_n (lv' := [(1, .int (0 : Int32)), (2, .int r8), (0, .ref (a 0))]) F dX5_either3_44 rfl rfl ?_
    refine g_goto F dX5_either3_45 (tgt := 5) (by decide) ?_
    exact (g_sub [2, 0] rfl h)
  replace h := h.2 c10
  refine g_iconst (v := (1 : Int32)) F dX5_either3_39 (by decide) ?_
  refine g_goto F dX5_either3_40 (tgt := 44) (by decide) ?_
  refine g_istore_n (lv' := [(1, .int (1 : Int32)), (2, .int r8), (0, .ref (a 0))]) F dX5_either3_44 rfl rfl ?_
  refine g_goto F dX5_either3_45 (tgt := 5) (by decide) ?_
  exact (g_sub [2, 0] rfl h)
set_option maxRecDepth 20000 in
theorem ctX5_either3 (l : Launch) (g : kG) (A : Nat → Prop) (a : Nat → Nat) (E : va_W) {σ : kS} {Q : Int32 → kS → Prop} (h : wX5_either3 σ Q) : kCt l yX5_either3 cX5_either3 3 (some .int) 21 505 0 0 g A [.ref (a 0)] (mW g a E σ) (kPi (mW g a E) Q) := by
  refine kCt.of (lv0 := [(0, .ref (a 0))]) (by decide +kernel) (Nat.le_of_ble_eq_true rfl) rfl (fun z hl hg hA F R => ?_)
  subst hl hg hA
  have F : kF z cX5_either3 RX5 3 { frames := 21, cells := 0, slots := 0, locals := 505 } := F
  unfold wX5_either3 at h
  refine g_aload_n F dX5_either3_0 0 rfl ?_
  refine rX5_X5_both3 F dX5_either3_1 rfl h (fun r2 s1 h => ?_)
  refine g_istore_n (lv' := [(1, .int r2), (0, .ref (a 0))]) F dX5_either3_4 rfl rfl ?_
  exact g_sub [1, 0] rfl (sX5_either3_5 F R h)
theorem plX5_either3 : kPlain yX5_either3 0 = true := by decide +kernel
theorem rX5_X5_either3 {z : kZ} {cc : ByteArray} {nL : Nat} {rm : Room} {c n pc : Nat} {lv : List (Nat × Value)} {st : List Value} {a : Nat → Nat} {E : va_W} {σ : kS} {Q : Int32 → kS → Prop} (F : kF z cc RX5 nL rm) (hd : decode cc pc = .ok (.invokevirtual 270, 3)) (hf : kFits rm 21 505 0 0 3 c n st = true) (h : wX5_either3 σ Q) (k : ∀ (v : Int32) (σ' : kS), Q v σ' → kV z (mW (zg z) a E σ') c n (pc + 3) lv (.int v :: st)) : kV z (mW (zg z) a E σ) c n pc lv (.ref (a 0) :: st) := by
  exact g_callV F (av := []) (ctX5_either3 _ _ _ a E h) (ci := 5) (q0 := 0) rfl rfl rfl wq1135 wq1137 wq80 wq114 wq1138 plX5_either3 hd hf (fun r ws' hq => by
    obtain ⟨v, σ', rfl, rfl, hq⟩ := hq
    exact k v σ' hq)
set_option maxRecDepth 20000 in
theorem sX5_atom2_157 {z : kZ} {a : Nat → Nat} {E : va_W}  {Q : Int32 → kS → Prop} {l1 : Int32} {σ : kS} (F : kF z cX5_atom2 RX5 2 { frames := 22, cells := 0, slots := 0, locals := 527 }) (R : kR z (some .int) 0 0 (kPi (mW (zg z) a E) Q)) (h : wX5_atom2_157 Q l1 σ) : kV z (mW (zg z) a E σ) 0 0 157 [(0, .ref (a 0)), (1, .int l1)] [] := by
  unfold wX5_atom2_157 at h
  refine g_aload_n F dX5_atom2_157 0 rfl ?_
  refine rX5_X5_fail F dX5_atom2_158 rfl h (fun s36 h => ?_)
  refine g_iload_n F dX5_atom2_161 1 rfl ?_
  exact g_iret F R rfl rfl dX5_atom2_162 ⟨_, _, rfl, rfl, h⟩
set_option maxRecDepth 20000 in
theorem sX5_atom2_123 {z : kZ} {a : Nat → Nat} {E : va_W}  {Q : Int32 → kS → Prop} {l1 : Int32} {σ : kS} (F : kF z cX5_atom2 RX5 2 { frames := 22, cells := 0, slots := 0, locals := 527 }) (R : kR z (some .int) 0 0 (kPi (mW (zg z) a E) Q)) (h : wX5_atom2_123 Q l1 σ) : kV z (mW (zg z) a E σ) 0 0 123 [(0, .ref (a 0)), (1, .int l1)] [] := by
  unfold wX5_atom2_123 at h
  refine g_aload_n F dX5_atom2_123 0 rfl ?_
  refine rgX5_X5_bad F dX5_atom2_124 ?_
  refine g_if_ne F dX5_atom2_127 (tgt := 157) (by decide) (fun c27 => ?_) (fun c27 => ?_)
  · replace h := h.1 c27
    exact (sX5_atom2_157 F R h)
  replace h := h.2 c27
  refine g_aload_n F dX5_atom2_130 0 rfl ?_
  refine rgX5_X5_token F dX5_atom2_131 ?_
  refine g_iconst (v := (1 : Int32)) F dX5_atom2_134 (by decide) ?_
  refine g_icmp_ne F dX5_atom2_135 (tgt := 157) (by decide) (fun c28 => ?_) (fun c28 => ?_)
  · replace h := h.1 c28
    exact (sX5_atom2_157 F R h)
  replace h := h.2 c28
  refine g_aload_n F dX5_atom2_138 0 rfl ?_
  refine rX5_X5_name F dX5_atom2_139 rfl h (fun r30 s29 h => ?_)
  refine g_istore_n (lv' := [(1, .int r30), (0, .ref (a 0))]) F dX5_atom2_142 rfl rfl ?_
  refine g_aload_n F dX5_atom2_143 1 rfl ?_
  refine rgX5_X5_bad F dX5_atom2_144 ?_
  refine g_if_ne F dX5_atom2_147 (tgt := 161) (by decide) (fun c31 => ?_) (fun c31 => ?_)
  · replace h := h.1 c31
    refine g_iload_n F dX5_atom2_161 0 rfl ?_
    exact g_iret F R rfl rfl dX5_atom2_162 ⟨_, _, rfl, rfl, h⟩
  replace h := h.2 c31
  refine g_aload_n F dX5_atom2_150 1 rfl ?_
  refine rX5_X5_next F dX5_atom2_151 rfl h (fun s32 h => ?_)
  refine g_goto F dX5_atom2_154 (tgt := 161) (by decide) ?_
  refine g_iload_n F dX5_atom2_161 0 rfl ?_
  exact g_iret F R rfl rfl dX5_atom2_162 ⟨_, _, rfl, rfl, h⟩
set_option maxRecDepth 20000 in
theorem sX5_atom2_71 {z : kZ} {a : Nat → Nat} {E : va_W}  {Q : Int32 → kS → Prop} {l1 : Int32} {σ : kS} (F : kF z cX5_atom2 RX5 2 { frames := 22, cells := 0, slots := 0, locals := 527 }) (R : kR z (some .int) 0 0 (kPi (mW (zg z) a E) Q)) (h : wX5_atom2_71 Q l1 σ) : kV z (mW (zg z) a E σ) 0 0 71 [(0, .ref (a 0)), (1, .int l1)] [] := by
  unfold wX5_atom2_71 at h
  refine g_aload_n F dX5_atom2_71 0 rfl ?_
  refine g_dup F dX5_atom2_72 rfl ?_
  refine rgX5_X5_open F dX5_atom2_73 ?_
  refine g_iconst (v := (1 : Int32)) F dX5_atom2_76 (by decide) ?_
  refine g_isub F dX5_atom2_77 ?_
  refine rpX5_X5_open F dX5_atom2_78 ?_
  refine g_name (wf := mW (zg z) a E) (fun s33 es33 => ?_)
  replace h := h s33 es33
  refine g_aload_n F dX5_atom2_81 0 rfl ?_
  refine rgX5_X5_bad F dX5_atom2_82 ?_
  refine g_if_ne F dX5_atom2_85 (tgt := 161) (by decide) (fun c34 => ?_) (fun c34 => ?_)
  · replace h := h.1 c34
    refine g_iload_n F dX5_atom2_161 1 rfl ?_
    exact g_iret F R rfl rfl dX5_atom2_162 ⟨_, _, rfl, rfl, h⟩
  replace h := h.2 c34
  refine g_aload_n F dX5_atom2_88 0 rfl ?_
  refine rX5_X5_next F dX5_atom2_89 rfl h (fun s35 h => ?_)
  refine g_goto F dX5_atom2_92 (tgt := 161) (by decide) ?_
  refine g_iload_n F dX5_atom2_161 1 rfl ?_
  exact g_iret F R rfl rfl dX5_atom2_162 ⟨_, _, rfl, rfl, h⟩
set_option maxRecDepth 20000 in
theorem ctX5_atom2 (l : Launch) (g : kG) (A : Nat → Prop) (a : Nat → Nat) (E : va_W) {σ : kS} {Q : Int32 → kS → Prop} (h : wX5_atom2 σ Q) : kCt l yX5_atom2 cX5_atom2 2 (some .int) 22 527 0 0 g A [.ref (a 0)] (mW g a E σ) (kPi (mW g a E) Q) := by
  refine kCt.of (lv0 := [(0, .ref (a 0))]) (by decide +kernel) (Nat.le_of_ble_eq_true rfl) rfl (fun z hl hg hA F R => ?_)
  subst hl hg hA
  have F : kF z cX5_atom2 RX5 2 { frames := 22, cells := 0, slots := 0, locals := 527 } := F
  unfold wX5_atom2 at h
  refine g_iconst (v := (0 : Int32)) F dX5_atom2_0 (by decide) ?_
  refine g_istore_n (lv' := [(1, .int (0 : Int32)), (0, .ref (a 0))]) F dX5_atom2_1 rfl rfl ?_
  refine g_aload_n F dX5_atom2_2 1 rfl ?_
  refine g_bipush (v := (45 : Int32)) F dX5_atom2_3 (by decide) ?_
  refine rX5_X5_isSign F dX5_atom2_5 rfl h (fun r2 s1 h => ?_)
  refine g_if_eq F dX5_atom2_8 (tgt := 37) (by decide) (fun c3 => ?_) (fun c3 => ?_)
  · replace h := h.1 c3
    refine g_aload_n F dX5_atom2_37 1 rfl ?_
    refine g_bipush (v := (40 : Int32)) F dX5_atom2_38 (by decide) ?_
    refine rX5_X5_isSign F dX5_atom2_40 rfl h (fun r5 s4 h => ?_)
    refine g_if_eq F dX5_atom2_43 (tgt := 95) (by decide) (fun c6 => ?_) (fun c6 => ?_)
    · replace h := h.1 c6
      refine g_aload_n F dX5_atom2_95 1 rfl ?_
      refine rgX5_X5_bad F dX5_atom2_96 ?_
      refine g_if_ne F dX5_atom2_99 (tgt := 123) (by decide) (fun c7 => ?_) (fun c7 => ?_)
      · replace h := h.1 c7
        exact g_sub [1, 0] rfl (sX5_atom2_123 F R h)
      replace h := h.2 c7
      refine g_aload_n F dX5_atom2_102 1 rfl ?_
      refine rgX5_X5_token F dX5_atom2_103 ?_
      refine g_iconst (v := (2 : Int32)) F dX5_atom2_106 (by decide) ?_
      refine g_icmp_ne F dX5_atom2_107 (tgt := 123) (by decide) (fun c8 => ?_) (fun c8 => ?_)
      · replace h := h.1 c8
        exact g_sub [1, 0] rfl (sX5_atom2_123 F R h)
      replace h := h.2 c8
      refine g_aload_n F dX5_atom2_110 1 rfl ?_
      refine rgX5_X5_tokenWorth F dX5_atom2_111 ?_
      refine g_l2i F dX5_atom2_114 ?_
      refine g_topi (fun x9 ex9 => ?_)
      replace h := h x9 ex9
      refine g_istore_n (lv' := [(1, .int x9), (0, .ref (a 0))]) F dX5_atom2_115 rfl rfl ?_
      refine g_aload_n F dX5_atom2_116 1 rfl ?_
      refine rX5_X5_next F dX5_atom2_117 rfl h (fun s10 h => ?_)
      refine g_goto F dX5_atom2_120 (tgt := 161) (by decide) ?_
      refine g_iload_n F dX5_atom2_161 0 rfl ?_
      exact g_iret F R rfl rfl dX5_atom2_162 ⟨_, _, rfl, rfl, h⟩
    replace h := h.2 c6
    refine g_aload_n F dX5_atom2_46 1 rfl ?_
    refine rX5_X5_opens F dX5_atom2_47 rfl h (fun r12 s11 h => ?_)
    refine g_if_eq F dX5_atom2_50 (tgt := 161) (by decide) (fun c13 => ?_) (fun c13 => ?_)
    · replace h := h.1 c13
      refine g_iload_n F dX5_atom2_161 0 rfl ?_
      exact g_iret F R rfl rfl dX5_atom2_162 ⟨_, _, rfl, rfl, h⟩
    replace h := h.2 c13
    refine g_aload_n F dX5_atom2_53 1 rfl ?_
    refine rX5_X5_either3 F dX5_atom2_54 rfl h (fun r15 s14 h => ?_)
    refine g_istore_n (lv' := [(1, .int r15), (0, .ref (a 0))]) F dX5_atom2_57 rfl rfl ?_
    refine g_aload_n F dX5_atom2_58 1 rfl ?_
    refine g_bipush (v := (41 : Int32)) F dX5_atom2_59 (by decide) ?_
    refine rX5_X5_isSign F dX5_atom2_61 rfl h (fun r17 s16 h => ?_)
    refine g_if_ne F dX5_atom2_64 (tgt := 71) (by decide) (fun c18 => ?_) (fun c18 => ?_)
    · replace h := h.1 c18
      exact g_sub [1, 0] rfl (sX5_atom2_71 F R h)
    replace h := h.2 c18
    refine g_aload_n F dX5_atom2_67 1 rfl ?_
    refine rX5_X5_fail F dX5_atom2_68 rfl h (fun s19 h => ?_)
    exact g_sub [1, 0] rfl (sX5_atom2_71 F R h)
  replace h := h.2 c3
  refine g_aload_n F dX5_atom2_11 1 rfl ?_
  refine rX5_X5_opens F dX5_atom2_12 rfl h (fun r21 s20 h => ?_)
  refine g_if_eq F dX5_atom2_15 (tgt := 161) (by decide) (fun c22 => ?_) (fun c22 => ?_)
  · replace h := h.1 c22
    refine g_iload_n F dX5_atom2_161 0 rfl ?_
    exact g_iret F R rfl rfl dX5_atom2_162 ⟨_, _, rfl, rfl, h⟩
  replace h := h.2 c22
  refine g_aload_n F dX5_atom2_18 1 rfl ?_
  refine rX5_X5_atom3 F dX5_atom2_19 rfl h (fun r24 s23 h => ?_)
  refine g_ineg F dX5_atom2_22 ?_
  refine g_topi (fun x25 ex25 => ?_)
  replace h := h x25 ex25
  refine g_istore_n (lv' := [(1, .int x25), (0, .ref (a 0))]) F dX5_atom2_23 rfl rfl ?_
  refine g_aload_n F dX5_atom2_24 1 rfl ?_
  refine g_dup F dX5_atom2_25 rfl ?_
  refine rgX5_X5_open F dX5_atom2_26 ?_
  refine g_iconst (v := (1 : Int32)) F dX5_atom2_29 (by decide) ?_
  refine g_isub F dX5_atom2_30 ?_
  refine rpX5_X5_open F dX5_atom2_31 ?_
  refine g_name (wf := mW (zg z) a E) (fun s26 es26 => ?_)
  replace h := h s26 es26
  refine g_goto F dX5_atom2_34 (tgt := 161) (by decide) ?_
  refine g_iload_n F dX5_atom2_161 0 rfl ?_
  exact g_iret F R rfl rfl dX5_atom2_162 ⟨_, _, rfl, rfl, h⟩
theorem plX5_atom2 : kPlain yX5_atom2 0 = true := by decide +kernel
theorem rX5_X5_atom2 {z : kZ} {cc : ByteArray} {nL : Nat} {rm : Room} {c n pc : Nat} {lv : List (Nat × Value)} {st : List Value} {a : Nat → Nat} {E : va_W} {σ : kS} {Q : Int32 → kS → Prop} (F : kF z cc RX5 nL rm) (hd : decode cc pc = .ok (.invokevirtual 273, 3)) (hf : kFits rm 22 527 0 0 2 c n st = true) (h : wX5_atom2 σ Q) (k : ∀ (v : Int32) (σ' : kS), Q v σ' → kV z (mW (zg z) a E σ') c n (pc + 3) lv (.int v :: st)) : kV z (mW (zg z) a E σ) c n pc lv (.ref (a 0) :: st) := by
  exact g_callV F (av := []) (ctX5_atom2 _ _ _ a E h) (ci := 5) (q0 := 0) rfl rfl rfl wq1131 wq1133 wq79 wq114 wq1134 plX5_atom2 hd hf (fun r ws' hq => by
    obtain ⟨v, σ', rfl, rfl, hq⟩ := hq
    exact k v σ' hq)
set_option maxRecDepth 20000 in
theorem sX5_term2_5 {z : kZ} {a : Nat → Nat} {E : va_W}  {Q : Int32 → kS → Prop} {l1 : Int32} {σ : kS} (F : kF z cX5_term2 RX5 2 { frames := 23, cells := 0, slots := 0, locals := 548 }) (R : kR z (some .int) 0 0 (kPi (mW (zg z) a E) Q)) (h : wX5_term2_5 Q l1 σ) : kV z (mW (zg z) a E σ) 0 0 5 [(0, .ref (a 0)), (1, .int l1)] [] := by
  unfold wX5_term2_5 at h
  refine h (fun σ l1 => kV z (mW (zg z) a E σ) 0 0 5 [(0, .ref (a 0)), (1, .int l1)] []) (fun σ l1 h => ?_)
  refine g_aload_n F dX5_term2_5 0 rfl ?_
  refine g_bipush (v := (42 : Int32)) F dX5_term2_6 (by decide) ?_
  refine rX5_X5_isSign F dX5_term2_8 rfl h (fun r4 s3 h => ?_)
  refine g_if_eq F dX5_term2_11 (tgt := 28) (by decide) (fun c5 => ?_) (fun c5 => ?_)
  · replace h := h.1 c5
    refine g_iload_n F dX5_term2_28 1 rfl ?_
    exact g_iret F R rfl rfl dX5_term2_29 ⟨_, _, rfl, rfl, h⟩
  replace h := h.2 c5
  refine g_aload_n F dX5_term2_14 0 rfl ?_
  refine rX5_X5_next F dX5_term2_15 rfl h (fun s6 h => ?_)
  refine g_iload_n F dX5_term2_18 1 rfl ?_
  refine g_aload_n F dX5_term2_19 0 rfl ?_
  refine rX5_X5_atom2 F dX5_term2_20 rfl h (fun r8 s7 h => ?_)
  refine g_imul F dX5_term2_23 ?_
  refine g_topi (fun x9 ex9 => ?_)
  replace h := h x9 ex9
  refine g_istore_n (lv' := [(1, .int x9), (0, .ref (a 0))]) F dX5_term2_24 rfl rfl ?_
  refine g_goto F dX5_term2_25 (tgt := 5) (by decide) ?_
  exact (g_sub [1, 0] rfl h)
set_option maxRecDepth 20000 in
theorem ctX5_term2 (l : Launch) (g : kG) (A : Nat → Prop) (a : Nat → Nat) (E : va_W) {σ : kS} {Q : Int32 → kS → Prop} (h : wX5_term2 σ Q) : kCt l yX5_term2 cX5_term2 2 (some .int) 23 548 0 0 g A [.ref (a 0)] (mW g a E σ) (kPi (mW g a E) Q) := by
  refine kCt.of (lv0 := [(0, .ref (a 0))]) (by decide +kernel) (Nat.le_of_ble_eq_true rfl) rfl (fun z hl hg hA F R => ?_)
  subst hl hg hA
  have F : kF z cX5_term2 RX5 2 { frames := 23, cells := 0, slots := 0, locals := 548 } := F
  unfold wX5_term2 at h
  refine g_aload_n F dX5_term2_0 0 rfl ?_
  refine rX5_X5_atom2 F dX5_term2_1 rfl h (fun r2 s1 h => ?_)
  refine g_istore_n (lv' := [(1, .int r2), (0, .ref (a 0))]) F dX5_term2_4 rfl rfl ?_
  exact g_sub [1, 0] rfl (sX5_term2_5 F R h)
theorem plX5_term2 : kPlain yX5_term2 0 = true := by decide +kernel
theorem rX5_X5_term2 {z : kZ} {cc : ByteArray} {nL : Nat} {rm : Room} {c n pc : Nat} {lv : List (Nat × Value)} {st : List Value} {a : Nat → Nat} {E : va_W} {σ : kS} {Q : Int32 → kS → Prop} (F : kF z cc RX5 nL rm) (hd : decode cc pc = .ok (.invokevirtual 276, 3)) (hf : kFits rm 23 548 0 0 2 c n st = true) (h : wX5_term2 σ Q) (k : ∀ (v : Int32) (σ' : kS), Q v σ' → kV z (mW (zg z) a E σ') c n (pc + 3) lv (.int v :: st)) : kV z (mW (zg z) a E σ) c n pc lv (.ref (a 0) :: st) := by
  exact g_callV F (av := []) (ctX5_term2 _ _ _ a E h) (ci := 5) (q0 := 0) rfl rfl rfl wq1127 wq1129 wq78 wq114 wq1130 plX5_term2 hd hf (fun r ws' hq => by
    obtain ⟨v, σ', rfl, rfl, hq⟩ := hq
    exact k v σ' hq)
set_option maxRecDepth 20000 in
theorem sX5_added2_39 {z : kZ} {a : Nat → Nat} {E : va_W}  {Q : Int32 → kS → Prop} {P5 : kS → Int32 → Prop} {l1 : Int32} {ks0 : Int32} {σ : kS} (F : kF z cX5_added2 RX5 4 { frames := 24, cells := 0, slots := 0, locals := 569 }) (R : kR z (some .int) 0 0 (kPi (mW (zg z) a E) Q)) (hP5 : ∀ (σ : kS) (l1 : Int32), P5 σ l1 → kV z (mW (zg z) a E σ) 0 0 5 [(0, .ref (a 0)), (1, .int l1)] []) (h : wX5_added2_39 Q P5 l1 ks0 σ) : kV z (mW (zg z) a E σ) 0 0 39 [(0, .ref (a 0)), (1, .int l1)] [.int ks0] := by
  unfold wX5_added2_39 at h
  refine g_istore_n (lv' := [(2, .int ks0), (0, .ref (a 0)), (1, .int l1)]) F dX5_added2_39 rfl rfl ?_
  refine g_aload_n F dX5_added2_40 1 rfl ?_
  refine rX5_X5_next F dX5_added2_41 rfl h (fun s10 h => ?_)
  refine g_aload_n F dX5_added2_44 1 rfl ?_
  refine rX5_X5_term2 F dX5_added2_45 rfl h (fun r12 s11 h => ?_)
  refine g_istore_n (lv' := [(3, .int r12), (2, .int ks0), (0, .ref (a 0)), (1, .int l1)]) F dX5_added2_48 rfl rfl ?_
  refine g_iload_n F dX5_added2_49 1 rfl ?_
  refine g_if_eq F dX5_added2_50 (tgt := 59) (by decide) (fun c13 => ?_) (fun c13 => ?_)
  · replace h := h.1 c13
    refine g_iload_n F dX5_added2_59 3 rfl ?_
    refine g_iload_n F dX5_added2_60 0 rfl ?_
    refine g_isub F dX5_added2_61 ?_
    refine g_topi (fun x14 ex14 => ?_)
    replace h := h x14 ex14
    refine g_istore_n (lv' := [(1, .int x14), (3, .int r12), (2, .int ks0), (0, .ref (a 0))]) F dX5_added2_62 rfl rfl ?_
    refine g_goto F dX5_added2_63 (tgt := 5) (by decide) ?_
    exact g_sub [3, 0] rfl (hP5 _ _ h)
  replace h := h.2 c13
  refine g_iload_n F dX5_added2_53 3 rfl ?_
  refine g_iload_n F dX5_added2_54 0 rfl ?_
  refine g_iadd F dX5_added2_55 ?_
  refine g_goto F dX5_added2_56 (tgt := 62) (by decide) ?_
  refine g_topi (fun x15 ex15 => ?_)
  replace h := h x15 ex15
  refine g_istore_n (lv' := [(1, .int x15), (3, .int r12), (2, .int ks0), (0, .ref (a 0))]) F dX5_added2_62 rfl rfl ?_
  refine g_goto F dX5_added2_63 (tgt := 5) (by decide) ?_
  exact g_sub [3, 0] rfl (hP5 _ _ h)
set_option maxRecDepth 20000 in
theorem sX5_added2_23 {z : kZ} {a : Nat → Nat} {E : va_W}  {Q : Int32 → kS → Prop} {P5 : kS → Int32 → Prop} {l1 : Int32} {σ : kS} (F : kF z cX5_added2 RX5 4 { frames := 24, cells := 0, slots := 0, locals := 569 }) (R : kR z (some .int) 0 0 (kPi (mW (zg z) a E) Q)) (hP5 : ∀ (σ : kS) (l1 : Int32), P5 σ l1 → kV z (mW (zg z) a E σ) 0 0 5 [(0, .ref (a 0)), (1, .int l1)] []) (h : wX5_added2_23 Q P5 l1 σ) : kV z (mW (zg z) a E σ) 0 0 23 [(0, .ref (a 0)), (1, .int l1)] [] := by
  unfold wX5_added2_23 at h
  refine g_aload_n F dX5_added2_23 0 rfl ?_
  refine rgX5_X5_tokenWorth F dX5_added2_24 ?_
  refine g_ldc2 (v := (43 : Int64)) F dX5_added2_27 wq1081 ?_
  refine g_lcmp F dX5_added2_30 ?_
  refine g_if_ne F dX5_added2_31 (tgt := 38) (by decide) (fun c9 => ?_) (fun c9 => ?_)
  · replace h := h.1 c9
    refine g_iconst (v := (0 : Int32)) F dX5_added2_38 (by decide) ?_
    exact (sX5_added2_39 F R hP5 h)
  replace h := h.2 c9
  refine g_iconst (v := (1 : Int32)) F dX5_added2_34 (by decide) ?_
  refine g_goto F dX5_added2_35 (tgt := 39) (by decide) ?_
  exact (sX5_added2_39 F R hP5 h)
set_option maxRecDepth 20000 in
theorem sX5_added2_5 {z : kZ} {a : Nat → Nat} {E : va_W}  {Q : Int32 → kS → Prop} {l1 : Int32} {σ : kS} (F : kF z cX5_added2 RX5 4 { frames := 24, cells := 0, slots := 0, locals := 569 }) (R : kR z (some .int) 0 0 (kPi (mW (zg z) a E) Q)) (h : wX5_added2_5 Q l1 σ) : kV z (mW (zg z) a E σ) 0 0 5 [(0, .ref (a 0)), (1, .int l1)] [] := by
  unfold wX5_added2_5 at h
  refine h (fun σ l1 => kV z (mW (zg z) a E σ) 0 0 5 [(0, .ref (a 0)), (1, .int l1)] []) (fun σ l1 h => ?_)
  refine g_aload_n F dX5_added2_5 0 rfl ?_
  refine g_bipush (v := (43 : Int32)) F dX5_added2_6 (by decide) ?_
  refine rX5_X5_isSign F dX5_added2_8 rfl h (fun r4 s3 h => ?_)
  refine g_if_ne F dX5_added2_11 (tgt := 23) (by decide) (fun c5 => ?_) (fun c5 => ?_)
  · replace h := h.1 c5
    exact (sX5_added2_23 F R (fun _ _ h => h) h)
  replace h := h.2 c5
  refine g_aload_n F dX5_added2_14 0 rfl ?_
  refine g_bipush (v := (45 : Int32)) F dX5_added2_15 (by decide) ?_
  refine rX5_X5_isSign F dX5_added2_17 rfl h (fun r7 s6 h => ?_)
  refine g_if_eq F dX5_added2_20 (tgt := 66) (by decide) (fun c8 => ?_) (fun c8 => ?_)
  · replace h := h.1 c8
    refine g_iload_n F dX5_added2_66 1 rfl ?_
    exact g_iret F R rfl rfl dX5_added2_67 ⟨_, _, rfl, rfl, h⟩
  replace h := h.2 c8
  exact (sX5_added2_23 F R (fun _ _ h => h) h)
set_option maxRecDepth 20000 in
theorem ctX5_added2 (l : Launch) (g : kG) (A : Nat → Prop) (a : Nat → Nat) (E : va_W) {σ : kS} {Q : Int32 → kS → Prop} (h : wX5_added2 σ Q) : kCt l yX5_added2 cX5_added2 4 (some .int) 24 569 0 0 g A [.ref (a 0)] (mW g a E σ) (kPi (mW g a E) Q) := by
  refine kCt.of (lv0 := [(0, .ref (a 0))]) (by decide +kernel) (Nat.le_of_ble_eq_true rfl) rfl (fun z hl hg hA F R => ?_)
  subst hl hg hA
  have F : kF z cX5_added2 RX5 4 { frames := 24, cells := 0, slots := 0, locals := 569 } := F
  unfold wX5_added2 at h
  refine g_aload_n F dX5_added2_0 0 rfl ?_
  refine rX5_X5_term2 F dX5_added2_1 rfl h (fun r2 s1 h => ?_)
  refine g_istore_n (lv' := [(1, .int r2), (0, .ref (a 0))]) F dX5_added2_4 rfl rfl ?_
  exact g_sub [1, 0] rfl (sX5_added2_5 F R h)
theorem plX5_added2 : kPlain yX5_added2 0 = true := by decide +kernel
theorem rX5_X5_added2 {z : kZ} {cc : ByteArray} {nL : Nat} {rm : Room} {c n pc : Nat} {lv : List (Nat × Value)} {st : List Value} {a : Nat → Nat} {E : va_W} {σ : kS} {Q : Int32 → kS → Prop} (F : kF z cc RX5 nL rm) (hd : decode cc pc = .ok (.invokevirtual 279, 3)) (hf : kFits rm 24 569 0 0 4 c n st = true) (h : wX5_added2 σ Q) (k : ∀ (v : Int32) (σ' : kS), Q v σ' → kV z (mW (zg z) a E σ') c n (pc + 3) lv (.int v :: st)) : kV z (mW (zg z) a E σ) c n pc lv (.ref (a 0) :: st) := by
  exact g_callV F (av := []) (ctX5_added2 _ _ _ a E h) (ci := 5) (q0 := 0) rfl rfl rfl wq1123 wq1125 wq77 wq114 wq1126 plX5_added2 hd hf (fun r ws' hq => by
    obtain ⟨v, σ', rfl, rfl, hq⟩ := hq
    exact k v σ' hq)
set_option maxRecDepth 20000 in
theorem sX5_not2_93 {z : kZ} {a : Nat → Nat} {E : va_W}  {Q : Int32 → kS → Prop} {l1 : Int32} {ks0 : Int32} {σ : kS} (F : kF z cX5_not2 RX5 4 { frames := 25, cells := 0, slots := 0, locals := 592 }) (R : kR z (some .int) 0 0 (kPi (mW (zg z) a E) Q)) (h : wX5_not2_93 Q l1 ks0 σ) : kV z (mW (zg z) a E σ) 0 0 93 [(0, .ref (a 0)), (1, .int l1)] [.int ks0] := by
  unfold wX5_not2_93 at h
  refine g_istore_n (lv' := [(2, .int ks0), (0, .ref (a 0)), (1, .int l1)]) F dX5_not2_93 rfl rfl ?_
  refine g_aload_n F dX5_not2_94 1 rfl ?_
  refine rX5_X5_next F dX5_not2_95 rfl h (fun s20 h => ?_)
  refine g_aload_n F dX5_not2_98 1 rfl ?_
  refine rX5_X5_added2 F dX5_not2_99 rfl h (fun r22 s21 h => ?_)
  refine g_istore_n (lv' := [(3, .int r22), (2, .int ks0), (0, .ref (a 0)), (1, .int l1)]) F dX5_not2_102 rfl rfl ?_
  refine g_iload_n F dX5_not2_103 1 rfl ?_
  refine g_if_eq F dX5_not2_104 (tgt := 115) (by decide) (fun c23 => ?_) (fun c23 => ?_)
  · replace h := h.1 c23
    refine g_iload_n F dX5_not2_115 3 rfl ?_
    refine g_iload_n F dX5_not2_116 0 rfl ?_
    refine g_icmp_ne F dX5_not2_117 (tgt := 124) (by decide) (fun c24 => ?_) (fun c24 => ?_)
    · replace h := h.1 c24
      refine g_iconst (v := (0 : Int32)) F dX5_not2_124 (by decide) ?_
      exact g_iret F R rfl rfl dX5_not2_125 ⟨_, _, rfl, rfl, h⟩
    replace h := h.2 c24
    refine g_iconst (v := (1 : Int32)) F dX5_not2_120 (by decide) ?_
    refine g_goto F dX5_not2_121 (tgt := 125) (by decide) ?_
    exact g_iret F R rfl rfl dX5_not2_125 ⟨_, _, rfl, rfl, h⟩
  replace h := h.2 c23
  refine g_iload_n F dX5_not2_107 3 rfl ?_
  refine g_iload_n F dX5_not2_108 0 rfl ?_
  refine g_icmp_ge F dX5_not2_109 (tgt := 124) (by decide) (fun c25 => ?_) (fun c25 => ?_)
  · replace h := h.1 c25
    refine g_iconst (v := (0 : Int32)) F dX5_not2_124 (by decide) ?_
    exact g_iret F R rfl rfl dX5_not2_125 ⟨_, _, rfl, rfl, h⟩
  replace h := h.2 c25
  refine g_goto F dX5_not2_112 (tgt := 120) (by decide) ?_
  refine g_iconst (v := (1 : Int32)) F dX5_not2_120 (by decide) ?_
  refine g_goto F dX5_not2_121 (tgt := 125) (by decide) ?_
  exact g_iret F R rfl rfl dX5_not2_125 ⟨_, _, rfl, rfl, h⟩
set_option maxRecDepth 20000 in
theorem sX5_not2_77 {z : kZ} {a : Nat → Nat} {E : va_W}  {Q : Int32 → kS → Prop} {l1 : Int32} {σ : kS} (F : kF z cX5_not2 RX5 4 { frames := 25, cells := 0, slots := 0, locals := 592 }) (R : kR z (some .int) 0 0 (kPi (mW (zg z) a E) Q)) (h : wX5_not2_77 Q l1 σ) : kV z (mW (zg z) a E σ) 0 0 77 [(0, .ref (a 0)), (1, .int l1)] [] := by
  unfold wX5_not2_77 at h
  refine g_aload_n F dX5_not2_77 0 rfl ?_
  refine rgX5_X5_tokenWorth F dX5_not2_78 ?_
  refine g_ldc2 (v := (60 : Int64)) F dX5_not2_81 wq1082 ?_
  refine g_lcmp F dX5_not2_84 ?_
  refine g_if_ne F dX5_not2_85 (tgt := 92) (by decide) (fun c19 => ?_) (fun c19 => ?_)
  · replace h := h.1 c19
    refine g_iconst (v := (0 : Int32)) F dX5_not2_92 (by decide) ?_
    exact (sX5_not2_93 F R h)
  replace h := h.2 c19
  refine g_iconst (v := (1 : Int32)) F dX5_not2_88 (by decide) ?_
  refine g_goto F dX5_not2_89 (tgt := 93) (by decide) ?_
  exact (sX5_not2_93 F R h)
set_option maxRecDepth 20000 in
theorem ctX5_not2 (l : Launch) (g : kG) (A : Nat → Prop) (a : Nat → Nat) (E : va_W) {σ : kS} {Q : Int32 → kS → Prop} (h : wX5_not2 σ Q) : kCt l yX5_not2 cX5_not2 4 (some .int) 25 592 0 0 g A [.ref (a 0)] (mW g a E σ) (kPi (mW g a E) Q) := by
  refine kCt.of (lv0 := [(0, .ref (a 0))]) (by decide +kernel) (Nat.le_of_ble_eq_true rfl) rfl (fun z hl hg hA F R => ?_)
  subst hl hg hA
  have F : kF z cX5_not2 RX5 4 { frames := 25, cells := 0, slots := 0, locals := 592 } := F
  unfold wX5_not2 at h
  refine g_aload_n F dX5_not2_0 0 rfl ?_
  refine g_bipush (v := (110 : Int32)) F dX5_not2_1 (by decide) ?_
  refine g_bipush (v := (111 : Int32)) F dX5_not2_3 (by decide) ?_
  refine g_bipush (v := (116 : Int32)) F dX5_not2_5 (by decide) ?_
  refine g_iconst (v := (0 : Int32)) F dX5_not2_7 (by decide) ?_
  refine g_iconst (v := (0 : Int32)) F dX5_not2_8 (by decide) ?_
  refine g_iconst (v := (0 : Int32)) F dX5_not2_9 (by decide) ?_
  refine g_iconst (v := (0 : Int32)) F dX5_not2_10 (by decide) ?_
  refine g_iconst (v := (0 : Int32)) F dX5_not2_11 (by decide) ?_
  refine rX5_X5_isWord F dX5_not2_12 rfl h (fun r2 s1 h => ?_)
  refine g_if_eq F dX5_not2_15 (tgt := 52) (by decide) (fun c3 => ?_) (fun c3 => ?_)
  · replace h := h.1 c3
    refine g_aload_n F dX5_not2_52 0 rfl ?_
    refine rX5_X5_added2 F dX5_not2_53 rfl h (fun r5 s4 h => ?_)
    refine g_istore_n (lv' := [(1, .int r5), (0, .ref (a 0))]) F dX5_not2_56 rfl rfl ?_
    refine g_aload_n F dX5_not2_57 1 rfl ?_
    refine g_bipush (v := (60 : Int32)) F dX5_not2_58 (by decide) ?_
    refine rX5_X5_isSign F dX5_not2_60 rfl h (fun r7 s6 h => ?_)
    refine g_if_ne F dX5_not2_63 (tgt := 77) (by decide) (fun c8 => ?_) (fun c8 => ?_)
    · replace h := h.1 c8
      exact g_sub [1, 0] rfl (sX5_not2_77 F R h)
    replace h := h.2 c8
    refine g_aload_n F dX5_not2_66 1 rfl ?_
    refine g_bipush (v := (61 : Int32)) F dX5_not2_67 (by decide) ?_
    refine rX5_X5_isSign F dX5_not2_69 rfl h (fun r10 s9 h => ?_)
    refine g_if_ne F dX5_not2_72 (tgt := 77) (by decide) (fun c11 => ?_) (fun c11 => ?_)
    · replace h := h.1 c11
      exact g_sub [1, 0] rfl (sX5_not2_77 F R h)
    replace h := h.2 c11
    refine g_iload_n F dX5_not2_75 0 rfl ?_
    exact g_iret F R rfl rfl dX5_not2_76 ⟨_, _, rfl, rfl, h⟩
  replace h := h.2 c3
  refine g_aload_n F dX5_not2_18 0 rfl ?_
  refine rX5_X5_opens F dX5_not2_19 rfl h (fun r13 s12 h => ?_)
  refine g_if_ne F dX5_not2_22 (tgt := 27) (by decide) (fun c14 => ?_) (fun c14 => ?_)
  · replace h := h.1 c14
    refine g_aload_n F dX5_not2_27 0 rfl ?_
    refine rX5_X5_not3 F dX5_not2_28 rfl h (fun r16 s15 h => ?_)
    refine g_istore_n (lv' := [(1, .int r16), (0, .ref (a 0))]) F dX5_not2_31 rfl rfl ?_
    refine g_aload_n F dX5_not2_32 1 rfl ?_
    refine g_dup F dX5_not2_33 rfl ?_
    refine rgX5_X5_open F dX5_not2_34 ?_
    refine g_iconst (v := (1 : Int32)) F dX5_not2_37 (by decide) ?_
    refine g_isub F dX5_not2_38 ?_
    refine rpX5_X5_open F dX5_not2_39 ?_
    refine g_name (wf := mW (zg z) a E) (fun s17 es17 => ?_)
    replace h := h s17 es17
    refine g_iload_n F dX5_not2_42 0 rfl ?_
    refine g_if_ne F dX5_not2_43 (tgt := 50) (by decide) (fun c18 => ?_) (fun c18 => ?_)
    · replace h := h.1 c18
      refine g_iconst (v := (0 : Int32)) F dX5_not2_50 (by decide) ?_
      exact g_iret F R rfl rfl dX5_not2_51 ⟨_, _, rfl, rfl, h⟩
    replace h := h.2 c18
    refine g_iconst (v := (1 : Int32)) F dX5_not2_46 (by decide) ?_
    refine g_goto F dX5_not2_47 (tgt := 51) (by decide) ?_
    exact g_iret F R rfl rfl dX5_not2_51 ⟨_, _, rfl, rfl, h⟩
  replace h := h.2 c14
  refine g_iconst (v := (0 : Int32)) F dX5_not2_25 (by decide) ?_
  exact g_iret F R rfl rfl dX5_not2_26 ⟨_, _, rfl, rfl, h⟩
theorem plX5_not2 : kPlain yX5_not2 0 = true := by decide +kernel
theorem rX5_X5_not2 {z : kZ} {cc : ByteArray} {nL : Nat} {rm : Room} {c n pc : Nat} {lv : List (Nat × Value)} {st : List Value} {a : Nat → Nat} {E : va_W} {σ : kS} {Q : Int32 → kS → Prop} (F : kF z cc RX5 nL rm) (hd : decode cc pc = .ok (.invokevirtual 282, 3)) (hf : kFits rm 25 592 0 0 4 c n st = true) (h : wX5_not2 σ Q) (k : ∀ (v : Int32) (σ' : kS), Q v σ' → kV z (mW (zg z) a E σ') c n (pc + 3) lv (.int v :: st)) : kV z (mW (zg z) a E σ) c n pc lv (.ref (a 0) :: st) := by
  exact g_callV F (av := []) (ctX5_not2 _ _ _ a E h) (ci := 5) (q0 := 0) rfl rfl rfl wq1045 wq1047 wq58 wq114 wq1048 plX5_not2 hd hf (fun r ws' hq => by
    obtain ⟨v, σ', rfl, rfl, hq⟩ := hq
    exact k v σ' hq)
set_option maxRecDepth 20000 in
theorem sX5_both2_5 {z : kZ} {a : Nat → Nat} {E : va_W}  {Q : Int32 → kS → Prop} {l1 : Int32} {σ : kS} (F : kF z cX5_both2 RX5 3 { frames := 26, cells := 0, slots := 0, locals := 615 }) (R : kR z (some .int) 0 0 (kPi (mW (zg z) a E) Q)) (h : wX5_both2_5 Q l1 σ) : kV z (mW (zg z) a E σ) 0 0 5 [(0, .ref (a 0)), (1, .int l1)] [] := by
  unfold wX5_both2_5 at h
  refine h (fun σ l1 => kV z (mW (zg z) a E σ) 0 0 5 [(0, .ref (a 0)), (1, .int l1)] []) (fun σ l1 h => ?_)
  refine g_aload_n F dX5_both2_5 0 rfl ?_
  refine g_bipush (v := (97 : Int32)) F dX5_both2_6 (by decide) ?_
  refine g_bipush (v := (110 : Int32)) F dX5_both2_8 (by decide) ?_
  refine g_bipush (v := (100 : Int32)) F dX5_both2_10 (by decide) ?_
  refine g_iconst (v := (0 : Int32)) F dX5_both2_12 (by decide) ?_
  refine g_iconst (v := (0 : Int32)) F dX5_both2_13 (by decide) ?_
  refine g_iconst (v := (0 : Int32)) F dX5_both2_14 (by decide) ?_
  refine g_iconst (v := (0 : Int32)) F dX5_both2_15 (by decide) ?_
  refine g_iconst (v := (0 : Int32)) F dX5_both2_16 (by decide) ?_
  refine rX5_X5_isWord F dX5_both2_17 rfl h (fun r4 s3 h => ?_)
  refine g_if_eq F dX5_both2_20 (tgt := 49) (by decide) (fun c5 => ?_) (fun c5 => ?_)
  · replace h := h.1 c5
    refine g_iload_n F dX5_both2_49 1 rfl ?_
    exact g_iret F R rfl rfl dX5_both2_50 ⟨_, _, rfl, rfl, h⟩
  replace h := h.2 c5
  refine g_aload_n F dX5_both2_23 0 rfl ?_
  refine rX5_X5_next F dX5_both2_24 rfl h (fun s6 h => ?_)
  refine g_aload_n F dX5_both2_27 0 rfl ?_
  refine rX5_X5_not2 F dX5_both2_28 rfl h (fun r8 s7 h => ?_)
  refine g_istore_n (lv' := [(2, .int r8), (0, .ref (a 0)), (1, .int l1)]) F dX5_both2_31 rfl rfl ?_
  refine g_iload_n F dX5_both2_32 2 rfl ?_
  refine g_if_eq F dX5_both2_33 (tgt := 44) (by decide) (fun c9 => ?_) (fun c9 => ?_)
  · replace h := h.1 c9
    refine g_iconst (v := (0 : Int32)) F dX5_both2_44 (by decide) ?_
    refine g_istore_n (lv' := [(1, .int (0 : Int32)), (2, .int r8), (0, .ref (a 0))]) F dX5_both2_45 rfl rfl ?_
    refine g_goto F dX5_both2_46 (tgt := 5) (by decide) ?_
    exact (g_sub [2, 0] rfl h)
  replace h := h.2 c9
  refine g_iload_n F dX5_both2_36 0 rfl ?_
  refine g_if_eq F dX5_both2_37 (tgt := 44) (by decide) (fun c10 => ?_) (fun c10 => ?_)
  · replace h := h.1 c10
    refine g_iconst (v := (0 : Int32)) F dX5_both2_44 (by decide) ?_
    refine g_istore_n (lv' := [(1, .int (0 : Int32)), (2, .int r8), (0, .ref (a 0))]) F dX5_both2_45 rfl rfl ?_
    refine g_goto F dX5_both2_46 (tgt := 5) (by decide) ?_
    exact (g_sub [2, 0] rfl h)
  replace h := h.2 c10
  refine g_iconst (v := (1 : Int32)) F dX5_both2_40 (by decide) ?_
  refine g_goto F dX5_both2_41 (tgt := 45) (by decide) ?_
  refine g_istore_n (lv' := [(1, .int (1 : Int32)), (2, .int r8), (0, .ref (a 0))]) F dX5_both2_45 rfl rfl ?_
  refine g_goto F dX5_both2_46 (tgt := 5) (by decide) ?_
  exact (g_sub [2, 0] rfl h)
set_option maxRecDepth 20000 in
theorem ctX5_both2 (l : Launch) (g : kG) (A : Nat → Prop) (a : Nat → Nat) (E : va_W) {σ : kS} {Q : Int32 → kS → Prop} (h : wX5_both2 σ Q) : kCt l yX5_both2 cX5_both2 3 (some .int) 26 615 0 0 g A [.ref (a 0)] (mW g a E σ) (kPi (mW g a E) Q) := by
  refine kCt.of (lv0 := [(0, .ref (a 0))]) (by decide +kernel) (Nat.le_of_ble_eq_true rfl) rfl (fun z hl hg hA F R => ?_)
  subst hl hg hA
  have F : kF z cX5_both2 RX5 3 { frames := 26, cells := 0, slots := 0, locals := 615 } := F
  unfold wX5_both2 at h
  refine g_aload_n F dX5_both2_0 0 rfl ?_
  refine rX5_X5_not2 F dX5_both2_1 rfl h (fun r2 s1 h => ?_)
  refine g_istore_n (lv' := [(1, .int r2), (0, .ref (a 0))]) F dX5_both2_4 rfl rfl ?_
  exact g_sub [1, 0] rfl (sX5_both2_5 F R h)
theorem plX5_both2 : kPlain yX5_both2 0 = true := by decide +kernel
theorem rX5_X5_both2 {z : kZ} {cc : ByteArray} {nL : Nat} {rm : Room} {c n pc : Nat} {lv : List (Nat × Value)} {st : List Value} {a : Nat → Nat} {E : va_W} {σ : kS} {Q : Int32 → kS → Prop} (F : kF z cc RX5 nL rm) (hd : decode cc pc = .ok (.invokevirtual 285, 3)) (hf : kFits rm 26 615 0 0 3 c n st = true) (h : wX5_both2 σ Q) (k : ∀ (v : Int32) (σ' : kS), Q v σ' → kV z (mW (zg z) a E σ') c n (pc + 3) lv (.int v :: st)) : kV z (mW (zg z) a E σ) c n pc lv (.ref (a 0) :: st) := by
  exact g_callV F (av := []) (ctX5_both2 _ _ _ a E h) (ci := 5) (q0 := 0) rfl rfl rfl wq1159 wq1161 wq86 wq114 wq1162 plX5_both2 hd hf (fun r ws' hq => by
    obtain ⟨v, σ', rfl, rfl, hq⟩ := hq
    exact k v σ' hq)
set_option maxRecDepth 20000 in
theorem sX5_either2_5 {z : kZ} {a : Nat → Nat} {E : va_W}  {Q : Int32 → kS → Prop} {l1 : Int32} {σ : kS} (F : kF z cX5_either2 RX5 3 { frames := 27, cells := 0, slots := 0, locals := 637 }) (R : kR z (some .int) 0 0 (kPi (mW (zg z) a E) Q)) (h : wX5_either2_5 Q l1 σ) : kV z (mW (zg z) a E σ) 0 0 5 [(0, .ref (a 0)), (1, .int l1)] [] := by
  unfold wX5_either2_5 at h
  refine h (fun σ l1 => kV z (mW (zg z) a E σ) 0 0 5 [(0, .ref (a 0)), (1, .int l1)] []) (fun σ l1 h => ?_)
  refine g_aload_n F dX5_either2_5 0 rfl ?_
  refine g_bipush (v := (111 : Int32)) F dX5_either2_6 (by decide) ?_
  refine g_bipush (v := (114 : Int32)) F dX5_either2_8 (by decide) ?_
  refine g_iconst (v := (0 : Int32)) F dX5_either2_10 (by decide) ?_
  refine g_iconst (v := (0 : Int32)) F dX5_either2_11 (by decide) ?_
  refine g_iconst (v := (0 : Int32)) F dX5_either2_12 (by decide) ?_
  refine g_iconst (v := (0 : Int32)) F dX5_either2_13 (by decide) ?_
  refine g_iconst (v := (0 : Int32)) F dX5_either2_14 (by decide) ?_
  refine g_iconst (v := (0 : Int32)) F dX5_either2_15 (by decide) ?_
  refine rX5_X5_isWord F dX5_either2_16 rfl h (fun r4 s3 h => ?_)
  refine g_if_eq F dX5_either2_19 (tgt := 48) (by decide) (fun c5 => ?_) (fun c5 => ?_)
  · replace h := h.1 c5
    refine g_iload_n F dX5_either2_48 1 rfl ?_
    exact g_iret F R rfl rfl dX5_either2_49 ⟨_, _, rfl, rfl, h⟩
  replace h := h.2 c5
  refine g_aload_n F dX5_either2_22 0 rfl ?_
  refine rX5_X5_next F dX5_either2_23 rfl h (fun s6 h => ?_)
  refine g_aload_n F dX5_either2_26 0 rfl ?_
  refine rX5_X5_both2 F dX5_either2_27 rfl h (fun r8 s7 h => ?_)
  refine g_istore_n (lv' := [(2, .int r8), (0, .ref (a 0)), (1, .int l1)]) F dX5_either2_30 rfl rfl ?_
  refine g_iload_n F dX5_either2_31 2 rfl ?_
  refine g_if_ne F dX5_either2_32 (tgt := 39) (by decide) (fun c9 => ?_) (fun c9 => ?_)
  · replace h := h.1 c9
    refine g_iconst (v := (1 : Int32)) F dX5_either2_39 (by decide) ?_
    refine g_goto F dX5_either2_40 (tgt := 44) (by decide) ?_
    refine g_istore_n (lv' := [(1, .int (1 : Int32)), (2, .int r8), (0, .ref (a 0))]) F dX5_either2_44 rfl rfl ?_
    refine g_goto F dX5_either2_45 (tgt := 5) (by decide) ?_
    exact (g_sub [2, 0] rfl h)
  replace h := h.2 c9
  refine g_iload_n F dX5_either2_35 0 rfl ?_
  refine g_if_eq F dX5_either2_36 (tgt := 43) (by decide) (fun c10 => ?_) (fun c10 => ?_)
  · replace h := h.1 c10
    refine g_iconst (v := (0 : Int32)) F dX5_either2_43 (by decide) ?_
    refine g_istore_n (lv' := [(1, .int (0 : Int32)), (2, .int r8), (0, .ref (a 0))]) F dX5_either2_44 rfl rfl ?_
    refine g_goto F dX5_either2_45 (tgt := 5) (by decide) ?_
    exact (g_sub [2, 0] rfl h)
  replace h := h.2 c10
  refine g_iconst (v := (1 : Int32)) F dX5_either2_39 (by decide) ?_
  refine g_goto F dX5_either2_40 (tgt := 44) (by decide) ?_
  refine g_istore_n (lv' := [(1, .int (1 : Int32)), (2, .int r8), (0, .ref (a 0))]) F dX5_either2_44 rfl rfl ?_
  refine g_goto F dX5_either2_45 (tgt := 5) (by decide) ?_
  exact (g_sub [2, 0] rfl h)
set_option maxRecDepth 20000 in
theorem ctX5_either2 (l : Launch) (g : kG) (A : Nat → Prop) (a : Nat → Nat) (E : va_W) {σ : kS} {Q : Int32 → kS → Prop} (h : wX5_either2 σ Q) : kCt l yX5_either2 cX5_either2 3 (some .int) 27 637 0 0 g A [.ref (a 0)] (mW g a E σ) (kPi (mW g a E) Q) := by
  refine kCt.of (lv0 := [(0, .ref (a 0))]) (by decide +kernel) (Nat.le_of_ble_eq_true rfl) rfl (fun z hl hg hA F R => ?_)
  subst hl hg hA
  have F : kF z cX5_either2 RX5 3 { frames := 27, cells := 0, slots := 0, locals := 637 } := F
  unfold wX5_either2 at h
  refine g_aload_n F dX5_either2_0 0 rfl ?_
  refine rX5_X5_both2 F dX5_either2_1 rfl h (fun r2 s1 h => ?_)
  refine g_istore_n (lv' := [(1, .int r2), (0, .ref (a 0))]) F dX5_either2_4 rfl rfl ?_
  exact g_sub [1, 0] rfl (sX5_either2_5 F R h)
theorem plX5_either2 : kPlain yX5_either2 0 = true := by decide +kernel
theorem rX5_X5_either2 {z : kZ} {cc : ByteArray} {nL : Nat} {rm : Room} {c n pc : Nat} {lv : List (Nat × Value)} {st : List Value} {a : Nat → Nat} {E : va_W} {σ : kS} {Q : Int32 → kS → Prop} (F : kF z cc RX5 nL rm) (hd : decode cc pc = .ok (.invokevirtual 288, 3)) (hf : kFits rm 27 637 0 0 3 c n st = true) (h : wX5_either2 σ Q) (k : ∀ (v : Int32) (σ' : kS), Q v σ' → kV z (mW (zg z) a E σ') c n (pc + 3) lv (.int v :: st)) : kV z (mW (zg z) a E σ) c n pc lv (.ref (a 0) :: st) := by
  exact g_callV F (av := []) (ctX5_either2 _ _ _ a E h) (ci := 5) (q0 := 0) rfl rfl rfl wq1155 wq1157 wq85 wq114 wq1158 plX5_either2 hd hf (fun r ws' hq => by
    obtain ⟨v, σ', rfl, rfl, hq⟩ := hq
    exact k v σ' hq)
set_option maxRecDepth 20000 in
theorem sX5_atom1_157 {z : kZ} {a : Nat → Nat} {E : va_W}  {Q : Int32 → kS → Prop} {l1 : Int32} {σ : kS} (F : kF z cX5_atom1 RX5 2 { frames := 28, cells := 0, slots := 0, locals := 659 }) (R : kR z (some .int) 0 0 (kPi (mW (zg z) a E) Q)) (h : wX5_atom1_157 Q l1 σ) : kV z (mW (zg z) a E σ) 0 0 157 [(0, .ref (a 0)), (1, .int l1)] [] := by
  unfold wX5_atom1_157 at h
  refine g_aload_n F dX5_atom1_157 0 rfl ?_
  refine rX5_X5_fail F dX5_atom1_158 rfl h (fun s36 h => ?_)
  refine g_iload_n F dX5_atom1_161 1 rfl ?_
  exact g_iret F R rfl rfl dX5_atom1_162 ⟨_, _, rfl, rfl, h⟩
set_option maxRecDepth 20000 in
theorem sX5_atom1_123 {z : kZ} {a : Nat → Nat} {E : va_W}  {Q : Int32 → kS → Prop} {l1 : Int32} {σ : kS} (F : kF z cX5_atom1 RX5 2 { frames := 28, cells := 0, slots := 0, locals := 659 }) (R : kR z (some .int) 0 0 (kPi (mW (zg z) a E) Q)) (h : wX5_atom1_123 Q l1 σ) : kV z (mW (zg z) a E σ) 0 0 123 [(0, .ref (a 0)), (1, .int l1)] [] := by
  unfold wX5_atom1_123 at h
  refine g_aload_n F dX5_atom1_123 0 rfl ?_
  refine rgX5_X5_bad F dX5_atom1_124 ?_
  refine g_if_ne F dX5_atom1_127 (tgt := 157) (by decide) (fun c27 => ?_) (fun c27 => ?_)
  · replace h := h.1 c27
    exact (sX5_atom1_157 F R h)
  replace h := h.2 c27
  refine g_aload_n F dX5_atom1_130 0 rfl ?_
  refine rgX5_X5_token F dX5_atom1_131 ?_
  refine g_iconst (v := (1 : Int32)) F dX5_atom1_134 (by decide) ?_
  refine g_icmp_ne F dX5_atom1_135 (tgt := 157) (by decide) (fun c28 => ?_) (fun c28 => ?_)
  · replace h := h.1 c28
    exact (sX5_atom1_157 F R h)
  replace h := h.2 c28
  refine g_aload_n F dX5_atom1_138 0 rfl ?_
  refine rX5_X5_name F dX5_atom1_139 rfl h (fun r30 s29 h => ?_)
  refine g_istore_n (lv' := [(1, .int r30), (0, .ref (a 0))]) F dX5_atom1_142 rfl rfl ?_
  refine g_aload_n F dX5_atom1_143 1 rfl ?_
  refine rgX5_X5_bad F dX5_atom1_144 ?_
  refine g_if_ne F dX5_atom1_147 (tgt := 161) (by decide) (fun c31 => ?_) (fun c31 => ?_)
  · replace h := h.1 c31
    refine g_iload_n F dX5_atom1_161 0 rfl ?_
    exact g_iret F R rfl rfl dX5_atom1_162 ⟨_, _, rfl, rfl, h⟩
  replace h := h.2 c31
  refine g_aload_n F dX5_atom1_150 1 rfl ?_
  refine rX5_X5_next F dX5_atom1_151 rfl h (fun s32 h => ?_)
  refine g_goto F dX5_atom1_154 (tgt := 161) (by decide) ?_
  refine g_iload_n F dX5_atom1_161 0 rfl ?_
  exact g_iret F R rfl rfl dX5_atom1_162 ⟨_, _, rfl, rfl, h⟩
set_option maxRecDepth 20000 in
theorem sX5_atom1_71 {z : kZ} {a : Nat → Nat} {E : va_W}  {Q : Int32 → kS → Prop} {l1 : Int32} {σ : kS} (F : kF z cX5_atom1 RX5 2 { frames := 28, cells := 0, slots := 0, locals := 659 }) (R : kR z (some .int) 0 0 (kPi (mW (zg z) a E) Q)) (h : wX5_atom1_71 Q l1 σ) : kV z (mW (zg z) a E σ) 0 0 71 [(0, .ref (a 0)), (1, .int l1)] [] := by
  unfold wX5_atom1_71 at h
  refine g_aload_n F dX5_atom1_71 0 rfl ?_
  refine g_dup F dX5_atom1_72 rfl ?_
  refine rgX5_X5_open F dX5_atom1_73 ?_
  refine g_iconst (v := (1 : Int32)) F dX5_atom1_76 (by decide) ?_
  refine g_isub F dX5_atom1_77 ?_
  refine rpX5_X5_open F dX5_atom1_78 ?_
  refine g_name (wf := mW (zg z) a E) (fun s33 es33 => ?_)
  replace h := h s33 es33
  refine g_aload_n F dX5_atom1_81 0 rfl ?_
  refine rgX5_X5_bad F dX5_atom1_82 ?_
  refine g_if_ne F dX5_atom1_85 (tgt := 161) (by decide) (fun c34 => ?_) (fun c34 => ?_)
  · replace h := h.1 c34
    refine g_iload_n F dX5_atom1_161 1 rfl ?_
    exact g_iret F R rfl rfl dX5_atom1_162 ⟨_, _, rfl, rfl, h⟩
  replace h := h.2 c34
  refine g_aload_n F dX5_atom1_88 0 rfl ?_
  refine rX5_X5_next F dX5_atom1_89 rfl h (fun s35 h => ?_)
  refine g_goto F dX5_atom1_92 (tgt := 161) (by decide) ?_
  refine g_iload_n F dX5_atom1_161 1 rfl ?_
  exact g_iret F R rfl rfl dX5_atom1_162 ⟨_, _, rfl, rfl, h⟩
set_option maxRecDepth 20000 in
theorem ctX5_atom1 (l : Launch) (g : kG) (A : Nat → Prop) (a : Nat → Nat) (E : va_W) {σ : kS} {Q : Int32 → kS → Prop} (h : wX5_atom1 σ Q) : kCt l yX5_atom1 cX5_atom1 2 (some .int) 28 659 0 0 g A [.ref (a 0)] (mW g a E σ) (kPi (mW g a E) Q) := by
  refine kCt.of (lv0 := [(0, .ref (a 0))]) (by decide +kernel) (Nat.le_of_ble_eq_true rfl) rfl (fun z hl hg hA F R => ?_)
  subst hl hg hA
  have F : kF z cX5_atom1 RX5 2 { frames := 28, cells := 0, slots := 0, locals := 659 } := F
  unfold wX5_atom1 at h
  refine g_iconst (v := (0 : Int32)) F dX5_atom1_0 (by decide) ?_
  refine g_istore_n (lv' := [(1, .int (0 : Int32)), (0, .ref (a 0))]) F dX5_atom1_1 rfl rfl ?_
  refine g_aload_n F dX5_atom1_2 1 rfl ?_
  refine g_bipush (v := (45 : Int32)) F dX5_atom1_3 (by decide) ?_
  refine rX5_X5_isSign F dX5_atom1_5 rfl h (fun r2 s1 h => ?_)
  refine g_if_eq F dX5_atom1_8 (tgt := 37) (by decide) (fun c3 => ?_) (fun c3 => ?_)
  · replace h := h.1 c3
    refine g_aload_n F dX5_atom1_37 1 rfl ?_
    refine g_bipush (v := (40 : Int32)) F dX5_atom1_38 (by decide) ?_
    refine rX5_X5_isSign F dX5_atom1_40 rfl h (fun r5 s4 h => ?_)
    refine g_if_eq F dX5_atom1_43 (tgt := 95) (by decide) (fun c6 => ?_) (fun c6 => ?_)
    · replace h := h.1 c6
      refine g_aload_n F dX5_atom1_95 1 rfl ?_
      refine rgX5_X5_bad F dX5_atom1_96 ?_
      refine g_if_ne F dX5_atom1_99 (tgt := 123) (by decide) (fun c7 => ?_) (fun c7 => ?_)
      · replace h := h.1 c7
        exact g_sub [1, 0] rfl (sX5_atom1_123 F R h)
      replace h := h.2 c7
      refine g_aload_n F dX5_atom1_102 1 rfl ?_
      refine rgX5_X5_token F dX5_atom1_103 ?_
      refine g_iconst (v := (2 : Int32)) F dX5_atom1_106 (by decide) ?_
      refine g_icmp_ne F dX5_atom1_107 (tgt := 123) (by decide) (fun c8 => ?_) (fun c8 => ?_)
      · replace h := h.1 c8
        exact g_sub [1, 0] rfl (sX5_atom1_123 F R h)
      replace h := h.2 c8
      refine g_aload_n F dX5_atom1_110 1 rfl ?_
      refine rgX5_X5_tokenWorth F dX5_atom1_111 ?_
      refine g_l2i F dX5_atom1_114 ?_
      refine g_topi (fun x9 ex9 => ?_)
      replace h := h x9 ex9
      refine g_istore_n (lv' := [(1, .int x9), (0, .ref (a 0))]) F dX5_atom1_115 rfl rfl ?_
      refine g_aload_n F dX5_atom1_116 1 rfl ?_
      refine rX5_X5_next F dX5_atom1_117 rfl h (fun s10 h => ?_)
      refine g_goto F dX5_atom1_120 (tgt := 161) (by decide) ?_
      refine g_iload_n F dX5_atom1_161 0 rfl ?_
      exact g_iret F R rfl rfl dX5_atom1_162 ⟨_, _, rfl, rfl, h⟩
    replace h := h.2 c6
    refine g_aload_n F dX5_atom1_46 1 rfl ?_
    refine rX5_X5_opens F dX5_atom1_47 rfl h (fun r12 s11 h => ?_)
    refine g_if_eq F dX5_atom1_50 (tgt := 161) (by decide) (fun c13 => ?_) (fun c13 => ?_)
    · replace h := h.1 c13
      refine g_iload_n F dX5_atom1_161 0 rfl ?_
      exact g_iret F R rfl rfl dX5_atom1_162 ⟨_, _, rfl, rfl, h⟩
    replace h := h.2 c13
    refine g_aload_n F dX5_atom1_53 1 rfl ?_
    refine rX5_X5_either2 F dX5_atom1_54 rfl h (fun r15 s14 h => ?_)
    refine g_istore_n (lv' := [(1, .int r15), (0, .ref (a 0))]) F dX5_atom1_57 rfl rfl ?_
    refine g_aload_n F dX5_atom1_58 1 rfl ?_
    refine g_bipush (v := (41 : Int32)) F dX5_atom1_59 (by decide) ?_
    refine rX5_X5_isSign F dX5_atom1_61 rfl h (fun r17 s16 h => ?_)
    refine g_if_ne F dX5_atom1_64 (tgt := 71) (by decide) (fun c18 => ?_) (fun c18 => ?_)
    · replace h := h.1 c18
      exact g_sub [1, 0] rfl (sX5_atom1_71 F R h)
    replace h := h.2 c18
    refine g_aload_n F dX5_atom1_67 1 rfl ?_
    refine rX5_X5_fail F dX5_atom1_68 rfl h (fun s19 h => ?_)
    exact g_sub [1, 0] rfl (sX5_atom1_71 F R h)
  replace h := h.2 c3
  refine g_aload_n F dX5_atom1_11 1 rfl ?_
  refine rX5_X5_opens F dX5_atom1_12 rfl h (fun r21 s20 h => ?_)
  refine g_if_eq F dX5_atom1_15 (tgt := 161) (by decide) (fun c22 => ?_) (fun c22 => ?_)
  · replace h := h.1 c22
    refine g_iload_n F dX5_atom1_161 0 rfl ?_
    exact g_iret F R rfl rfl dX5_atom1_162 ⟨_, _, rfl, rfl, h⟩
  replace h := h.2 c22
  refine g_aload_n F dX5_atom1_18 1 rfl ?_
  refine rX5_X5_atom2 F dX5_atom1_19 rfl h (fun r24 s23 h => ?_)
  refine g_ineg F dX5_atom1_22 ?_
  refine g_topi (fun x25 ex25 => ?_)
  replace h := h x25 ex25
  refine g_istore_n (lv' := [(1, .int x25), (0, .ref (a 0))]) F dX5_atom1_23 rfl rfl ?_
  refine g_aload_n F dX5_atom1_24 1 rfl ?_
  refine g_dup F dX5_atom1_25 rfl ?_
  refine rgX5_X5_open F dX5_atom1_26 ?_
  refine g_iconst (v := (1 : Int32)) F dX5_atom1_29 (by decide) ?_
  refine g_isub F dX5_atom1_30 ?_
  refine rpX5_X5_open F dX5_atom1_31 ?_
  refine g_name (wf := mW (zg z) a E) (fun s26 es26 => ?_)
  replace h := h s26 es26
  refine g_goto F dX5_atom1_34 (tgt := 161) (by decide) ?_
  refine g_iload_n F dX5_atom1_161 0 rfl ?_
  exact g_iret F R rfl rfl dX5_atom1_162 ⟨_, _, rfl, rfl, h⟩
theorem plX5_atom1 : kPlain yX5_atom1 0 = true := by decide +kernel
theorem rX5_X5_atom1 {z : kZ} {cc : ByteArray} {nL : Nat} {rm : Room} {c n pc : Nat} {lv : List (Nat × Value)} {st : List Value} {a : Nat → Nat} {E : va_W} {σ : kS} {Q : Int32 → kS → Prop} (F : kF z cc RX5 nL rm) (hd : decode cc pc = .ok (.invokevirtual 291, 3)) (hf : kFits rm 28 659 0 0 2 c n st = true) (h : wX5_atom1 σ Q) (k : ∀ (v : Int32) (σ' : kS), Q v σ' → kV z (mW (zg z) a E σ') c n (pc + 3) lv (.int v :: st)) : kV z (mW (zg z) a E σ) c n pc lv (.ref (a 0) :: st) := by
  exact g_callV F (av := []) (ctX5_atom1 _ _ _ a E h) (ci := 5) (q0 := 0) rfl rfl rfl wq1151 wq1153 wq84 wq114 wq1154 plX5_atom1 hd hf (fun r ws' hq => by
    obtain ⟨v, σ', rfl, rfl, hq⟩ := hq
    exact k v σ' hq)
set_option maxRecDepth 20000 in
theorem sX5_term1_5 {z : kZ} {a : Nat → Nat} {E : va_W}  {Q : Int32 → kS → Prop} {l1 : Int32} {σ : kS} (F : kF z cX5_term1 RX5 2 { frames := 29, cells := 0, slots := 0, locals := 680 }) (R : kR z (some .int) 0 0 (kPi (mW (zg z) a E) Q)) (h : wX5_term1_5 Q l1 σ) : kV z (mW (zg z) a E σ) 0 0 5 [(0, .ref (a 0)), (1, .int l1)] [] := by
  unfold wX5_term1_5 at h
  refine h (fun σ l1 => kV z (mW (zg z) a E σ) 0 0 5 [(0, .ref (a 0)), (1, .int l1)] []) (fun σ l1 h => ?_)
  refine g_aload_n F dX5_term1_5 0 rfl ?_
  refine g_bipush (v := (42 : Int32)) F dX5_term1_6 (by decide) ?_
  refine rX5_X5_isSign F dX5_term1_8 rfl h (fun r4 s3 h => ?_)
  refine g_if_eq F dX5_term1_11 (tgt := 28) (by decide) (fun c5 => ?_) (fun c5 => ?_)
  · replace h := h.1 c5
    refine g_iload_n F dX5_term1_28 1 rfl ?_
    exact g_iret F R rfl rfl dX5_term1_29 ⟨_, _, rfl, rfl, h⟩
  replace h := h.2 c5
  refine g_aload_n F dX5_term1_14 0 rfl ?_
  refine rX5_X5_next F dX5_term1_15 rfl h (fun s6 h => ?_)
  refine g_iload_n F dX5_term1_18 1 rfl ?_
  refine g_aload_n F dX5_term1_19 0 rfl ?_
  refine rX5_X5_atom1 F dX5_term1_20 rfl h (fun r8 s7 h => ?_)
  refine g_imul F dX5_term1_23 ?_
  refine g_topi (fun x9 ex9 => ?_)
  replace h := h x9 ex9
  refine g_istore_n (lv' := [(1, .int x9), (0, .ref (a 0))]) F dX5_term1_24 rfl rfl ?_
  refine g_goto F dX5_term1_25 (tgt := 5) (by decide) ?_
  exact (g_sub [1, 0] rfl h)
set_option maxRecDepth 20000 in
theorem ctX5_term1 (l : Launch) (g : kG) (A : Nat → Prop) (a : Nat → Nat) (E : va_W) {σ : kS} {Q : Int32 → kS → Prop} (h : wX5_term1 σ Q) : kCt l yX5_term1 cX5_term1 2 (some .int) 29 680 0 0 g A [.ref (a 0)] (mW g a E σ) (kPi (mW g a E) Q) := by
  refine kCt.of (lv0 := [(0, .ref (a 0))]) (by decide +kernel) (Nat.le_of_ble_eq_true rfl) rfl (fun z hl hg hA F R => ?_)
  subst hl hg hA
  have F : kF z cX5_term1 RX5 2 { frames := 29, cells := 0, slots := 0, locals := 680 } := F
  unfold wX5_term1 at h
  refine g_aload_n F dX5_term1_0 0 rfl ?_
  refine rX5_X5_atom1 F dX5_term1_1 rfl h (fun r2 s1 h => ?_)
  refine g_istore_n (lv' := [(1, .int r2), (0, .ref (a 0))]) F dX5_term1_4 rfl rfl ?_
  exact g_sub [1, 0] rfl (sX5_term1_5 F R h)
theorem plX5_term1 : kPlain yX5_term1 0 = true := by decide +kernel
theorem rX5_X5_term1 {z : kZ} {cc : ByteArray} {nL : Nat} {rm : Room} {c n pc : Nat} {lv : List (Nat × Value)} {st : List Value} {a : Nat → Nat} {E : va_W} {σ : kS} {Q : Int32 → kS → Prop} (F : kF z cc RX5 nL rm) (hd : decode cc pc = .ok (.invokevirtual 294, 3)) (hf : kFits rm 29 680 0 0 2 c n st = true) (h : wX5_term1 σ Q) (k : ∀ (v : Int32) (σ' : kS), Q v σ' → kV z (mW (zg z) a E σ') c n (pc + 3) lv (.int v :: st)) : kV z (mW (zg z) a E σ) c n pc lv (.ref (a 0) :: st) := by
  exact g_callV F (av := []) (ctX5_term1 _ _ _ a E h) (ci := 5) (q0 := 0) rfl rfl rfl wq1147 wq1149 wq83 wq114 wq1150 plX5_term1 hd hf (fun r ws' hq => by
    obtain ⟨v, σ', rfl, rfl, hq⟩ := hq
    exact k v σ' hq)
set_option maxRecDepth 20000 in
theorem sX5_added1_39 {z : kZ} {a : Nat → Nat} {E : va_W}  {Q : Int32 → kS → Prop} {P5 : kS → Int32 → Prop} {l1 : Int32} {ks0 : Int32} {σ : kS} (F : kF z cX5_added1 RX5 4 { frames := 30, cells := 0, slots := 0, locals := 701 }) (R : kR z (some .int) 0 0 (kPi (mW (zg z) a E) Q)) (hP5 : ∀ (σ : kS) (l1 : Int32), P5 σ l1 → kV z (mW (zg z) a E σ) 0 0 5 [(0, .ref (a 0)), (1, .int l1)] []) (h : wX5_added1_39 Q P5 l1 ks0 σ) : kV z (mW (zg z) a E σ) 0 0 39 [(0, .ref (a 0)), (1, .int l1)] [.int ks0] := by
  unfold wX5_added1_39 at h
  refine g_istore_n (lv' := [(2, .int ks0), (0, .ref (a 0)), (1, .int l1)]) F dX5_added1_39 rfl rfl ?_
  refine g_aload_n F dX5_added1_40 1 rfl ?_
  refine rX5_X5_next F dX5_added1_41 rfl h (fun s10 h => ?_)
  refine g_aload_n F dX5_added1_44 1 rfl ?_
  refine rX5_X5_term1 F dX5_added1_45 rfl h (fun r12 s11 h => ?_)
  refine g_istore_n (lv' := [(3, .int r12), (2, .int ks0), (0, .ref (a 0)), (1, .int l1)]) F dX5_added1_48 rfl rfl ?_
  refine g_iload_n F dX5_added1_49 1 rfl ?_
  refine g_if_eq F dX5_added1_50 (tgt := 59) (by decide) (fun c13 => ?_) (fun c13 => ?_)
  · replace h := h.1 c13
    refine g_iload_n F dX5_added1_59 3 rfl ?_
    refine g_iload_n F dX5_added1_60 0 rfl ?_
    refine g_isub F dX5_added1_61 ?_
    refine g_topi (fun x14 ex14 => ?_)
    replace h := h x14 ex14
    refine g_istore_n (lv' := [(1, .int x14), (3, .int r12), (2, .int ks0), (0, .ref (a 0))]) F dX5_added1_62 rfl rfl ?_
    refine g_goto F dX5_added1_63 (tgt := 5) (by decide) ?_
    exact g_sub [3, 0] rfl (hP5 _ _ h)
  replace h := h.2 c13
  refine g_iload_n F dX5_added1_53 3 rfl ?_
  refine g_iload_n F dX5_added1_54 0 rfl ?_
  refine g_iadd F dX5_added1_55 ?_
  refine g_goto F dX5_added1_56 (tgt := 62) (by decide) ?_
  refine g_topi (fun x15 ex15 => ?_)
  replace h := h x15 ex15
  refine g_istore_n (lv' := [(1, .int x15), (3, .int r12), (2, .int ks0), (0, .ref (a 0))]) F dX5_added1_62 rfl rfl ?_
  refine g_goto F dX5_added1_63 (tgt := 5) (by decide) ?_
  exact g_sub [3, 0] rfl (hP5 _ _ h)
set_option maxRecDepth 20000 in
theorem sX5_added1_23 {z : kZ} {a : Nat → Nat} {E : va_W}  {Q : Int32 → kS → Prop} {P5 : kS → Int32 → Prop} {l1 : Int32} {σ : kS} (F : kF z cX5_added1 RX5 4 { frames := 30, cells := 0, slots := 0, locals := 701 }) (R : kR z (some .int) 0 0 (kPi (mW (zg z) a E) Q)) (hP5 : ∀ (σ : kS) (l1 : Int32), P5 σ l1 → kV z (mW (zg z) a E σ) 0 0 5 [(0, .ref (a 0)), (1, .int l1)] []) (h : wX5_added1_23 Q P5 l1 σ) : kV z (mW (zg z) a E σ) 0 0 23 [(0, .ref (a 0)), (1, .int l1)] [] := by
  unfold wX5_added1_23 at h
  refine g_aload_n F dX5_added1_23 0 rfl ?_
  refine rgX5_X5_tokenWorth F dX5_added1_24 ?_
  refine g_ldc2 (v := (43 : Int64)) F dX5_added1_27 wq1081 ?_
  refine g_lcmp F dX5_added1_30 ?_
  refine g_if_ne F dX5_added1_31 (tgt := 38) (by decide) (fun c9 => ?_) (fun c9 => ?_)
  · replace h := h.1 c9
    refine g_iconst (v := (0 : Int32)) F dX5_added1_38 (by decide) ?_
    exact (sX5_added1_39 F R hP5 h)
  replace h := h.2 c9
  refine g_iconst (v := (1 : Int32)) F dX5_added1_34 (by decide) ?_
  refine g_goto F dX5_added1_35 (tgt := 39) (by decide) ?_
  exact (sX5_added1_39 F R hP5 h)
set_option maxRecDepth 20000 in
theorem sX5_added1_5 {z : kZ} {a : Nat → Nat} {E : va_W}  {Q : Int32 → kS → Prop} {l1 : Int32} {σ : kS} (F : kF z cX5_added1 RX5 4 { frames := 30, cells := 0, slots := 0, locals := 701 }) (R : kR z (some .int) 0 0 (kPi (mW (zg z) a E) Q)) (h : wX5_added1_5 Q l1 σ) : kV z (mW (zg z) a E σ) 0 0 5 [(0, .ref (a 0)), (1, .int l1)] [] := by
  unfold wX5_added1_5 at h
  refine h (fun σ l1 => kV z (mW (zg z) a E σ) 0 0 5 [(0, .ref (a 0)), (1, .int l1)] []) (fun σ l1 h => ?_)
  refine g_aload_n F dX5_added1_5 0 rfl ?_
  refine g_bipush (v := (43 : Int32)) F dX5_added1_6 (by decide) ?_
  refine rX5_X5_isSign F dX5_added1_8 rfl h (fun r4 s3 h => ?_)
  refine g_if_ne F dX5_added1_11 (tgt := 23) (by decide) (fun c5 => ?_) (fun c5 => ?_)
  · replace h := h.1 c5
    exact (sX5_added1_23 F R (fun _ _ h => h) h)
  replace h := h.2 c5
  refine g_aload_n F dX5_added1_14 0 rfl ?_
  refine g_bipush (v := (45 : Int32)) F dX5_added1_15 (by decide) ?_
  refine rX5_X5_isSign F dX5_added1_17 rfl h (fun r7 s6 h => ?_)
  refine g_if_eq F dX5_added1_20 (tgt := 66) (by decide) (fun c8 => ?_) (fun c8 => ?_)
  · replace h := h.1 c8
    refine g_iload_n F dX5_added1_66 1 rfl ?_
    exact g_iret F R rfl rfl dX5_added1_67 ⟨_, _, rfl, rfl, h⟩
  replace h := h.2 c8
  exact (sX5_added1_23 F R (fun _ _ h => h) h)
set_option maxRecDepth 20000 in
theorem ctX5_added1 (l : Launch) (g : kG) (A : Nat → Prop) (a : Nat → Nat) (E : va_W) {σ : kS} {Q : Int32 → kS → Prop} (h : wX5_added1 σ Q) : kCt l yX5_added1 cX5_added1 4 (some .int) 30 701 0 0 g A [.ref (a 0)] (mW g a E σ) (kPi (mW g a E) Q) := by
  refine kCt.of (lv0 := [(0, .ref (a 0))]) (by decide +kernel) (Nat.le_of_ble_eq_true rfl) rfl (fun z hl hg hA F R => ?_)
  subst hl hg hA
  have F : kF z cX5_added1 RX5 4 { frames := 30, cells := 0, slots := 0, locals := 701 } := F
  unfold wX5_added1 at h
  refine g_aload_n F dX5_added1_0 0 rfl ?_
  refine rX5_X5_term1 F dX5_added1_1 rfl h (fun r2 s1 h => ?_)
  refine g_istore_n (lv' := [(1, .int r2), (0, .ref (a 0))]) F dX5_added1_4 rfl rfl ?_
  exact g_sub [1, 0] rfl (sX5_added1_5 F R h)
