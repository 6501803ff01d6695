set_option maxRecDepth 20000 in
theorem ctX5_dryWithout (l : Launch) (g : kG) (A : Nat → Prop) (a : Nat → Nat) (E : va_W) {l1 : Int32} {l2 : Int32} {σ : kS} {Q : Int32 → kS → Prop} (h : wX5_dryWithout l1 l2 σ Q) : kCt l yX5_dryWithout cX5_dryWithout 5 (some .int) 47 1090 0 0 g A [.ref (a 0), .int l1, .int l2] (mW g a E σ) (kPi (mW g a E) Q) := by
  refine kCt.of (lv0 := [(0, .ref (a 0)), (1, .int l1), (2, .int l2)]) (by decide +kernel) (Nat.le_of_ble_eq_true rfl) rfl (fun z hl hg hA F R => ?_)
  subst hl hg hA
  have F : kF z cX5_dryWithout RX5 5 { frames := 47, cells := 0, slots := 0, locals := 1090 } := F
  unfold wX5_dryWithout at h
  refine g_aload_n F dX5_dryWithout_0 0 rfl ?_
  refine rgX5_X5_rows F dX5_dryWithout_1 ?_
  refine g_iconst (v := (3 : Int32)) F dX5_dryWithout_4 (by decide) ?_
  refine g_iload_n F dX5_dryWithout_5 1 rfl ?_
  refine g_imul F dX5_dryWithout_6 ?_
  refine g_iconst (v := (2 : Int32)) F dX5_dryWithout_7 (by decide) ?_
  refine g_iadd F dX5_dryWithout_8 ?_
  obtain ⟨hc, h⟩ := h
  refine g_iald (wf := mW (zg z) a E) F mA6 hc dX5_dryWithout_9 ?_
  refine g_topi (fun x1 ex1 => ?_)
  replace h := h x1 ex1
  refine g_istore_n (lv' := [(3, .int x1), (0, .ref (a 0)), (1, .int l1), (2, .int l2)]) F dX5_dryWithout_10 rfl rfl ?_
  refine g_aload_n F dX5_dryWithout_11 1 rfl ?_
  refine rgX5_X5_rows F dX5_dryWithout_12 ?_
  refine g_iconst (v := (3 : Int32)) F dX5_dryWithout_15 (by decide) ?_
  refine g_iload_n F dX5_dryWithout_16 2 rfl ?_
  refine g_imul F dX5_dryWithout_17 ?_
  refine g_iconst (v := (2 : Int32)) F dX5_dryWithout_18 (by decide) ?_
  refine g_iadd F dX5_dryWithout_19 ?_
  refine g_iconst (v := (0 : Int32)) F dX5_dryWithout_20 (by decide) ?_
  obtain ⟨hc, h⟩ := h
  refine g_iast (wf := mW (zg z) a E) F mA6 hc dX5_dryWithout_21 ?_
  refine g_name (wf := mW (zg z) a E) (fun s2 es2 => ?_)
  replace h := h s2 es2
  refine g_aload_n F dX5_dryWithout_22 1 rfl ?_
  refine g_iload_n F dX5_dryWithout_23 3 rfl ?_
  refine rX5_X5_dryBehind F dX5_dryWithout_24 rfl h (fun r4 s3 h => ?_)
  refine g_istore (lv' := [(4, .int r4), (3, .int x1), (0, .ref (a 0)), (1, .int l1), (2, .int l2)]) F dX5_dryWithout_27 rfl rfl ?_
  refine g_aload_n F dX5_dryWithout_29 2 rfl ?_
  refine rgX5_X5_rows F dX5_dryWithout_30 ?_
  refine g_iconst (v := (3 : Int32)) F dX5_dryWithout_33 (by decide) ?_
  refine g_iload_n F dX5_dryWithout_34 3 rfl ?_
  refine g_imul F dX5_dryWithout_35 ?_
  refine g_iconst (v := (2 : Int32)) F dX5_dryWithout_36 (by decide) ?_
  refine g_iadd F dX5_dryWithout_37 ?_
  refine g_iload_n F dX5_dryWithout_38 1 rfl ?_
  obtain ⟨hc, h⟩ := h
  refine g_iast (wf := mW (zg z) a E) F mA6 hc dX5_dryWithout_39 ?_
  refine g_name (wf := mW (zg z) a E) (fun s5 es5 => ?_)
  replace h := h s5 es5
  refine g_iload F dX5_dryWithout_40 0 rfl ?_
  exact g_iret F R rfl rfl dX5_dryWithout_42 ⟨_, _, rfl, rfl, h⟩
theorem plX5_dryWithout : kPlain yX5_dryWithout 2 = true := by decide +kernel
theorem rX5_X5_dryWithout {z : kZ} {cc : ByteArray} {nL : Nat} {rm : Room} {c n pc : Nat} {lv : List (Nat × Value)} {st : List Value} {a : Nat → Nat} {E : va_W} {σ : kS} {l1 : Int32} {l2 : Int32} {Q : Int32 → kS → Prop} (F : kF z cc RX5 nL rm) (hd : decode cc pc = .ok (.invokevirtual 399, 3)) (hf : kFits rm 47 1090 0 0 5 c n st = true) (h : wX5_dryWithout l1 l2 σ Q) (k : ∀ (v : Int32) (σ' : kS), Q v σ' → kV z (mW (zg z) a E σ') c n (pc + 3) lv (.int v :: st)) : kV z (mW (zg z) a E σ) c n pc lv (.int l2 :: .int l1 :: .ref (a 0) :: st) := by
  exact g_callV F (av := [.int l1, .int l2]) (ctX5_dryWithout _ _ _ a E h) (ci := 5) (q0 := 0) rfl rfl rfl wq1291 wq1293 wq105 wq114 wq1294 plX5_dryWithout hd hf (fun r ws' hq => by
    obtain ⟨v, σ', rfl, rfl, hq⟩ := hq
    exact k v σ' hq)
set_option maxRecDepth 20000 in
theorem sX5_idle_26 {z : kZ} {a : Nat → Nat} {E : va_W}  {Q : Int32 → kS → Prop} {l1 : Int32} {l2 : Int32} {l3 : Int32} {σ : kS} (F : kF z cX5_idle RX5 4 { frames := 48, cells := 0, slots := 0, locals := 1114 }) (R : kR z (some .int) 0 0 (kPi (mW (zg z) a E) Q)) (h : wX5_idle_26 Q l1 l2 l3 σ) : kV z (mW (zg z) a E σ) 0 0 26 [(0, .ref (a 0)), (1, .int l1), (2, .int l2), (3, .int l3)] [] := by
  unfold wX5_idle_26 at h
  refine h (fun σ l3 => kV z (mW (zg z) a E σ) 0 0 26 [(0, .ref (a 0)), (1, .int l1), (2, .int l2), (3, .int l3)] []) (fun σ l3 h => ?_)
  refine g_iload_n F dX5_idle_26 3 rfl ?_
  refine g_aload_n F dX5_idle_27 0 rfl ?_
  refine rgX5_X5_many F dX5_idle_28 ?_
  refine g_icmp_ge F dX5_idle_31 (tgt := 69) (by decide) (fun c6 => ?_) (fun c6 => ?_)
  · replace h := h.1 c6
    refine g_iconst (v := (-1 : Int32)) F dX5_idle_69 (by decide) ?_
    exact g_iret F R rfl rfl dX5_idle_70 ⟨_, _, rfl, rfl, h⟩
  replace h := h.2 c6
  refine g_aload_n F dX5_idle_34 0 rfl ?_
  refine rgX5_X5_rows F dX5_idle_35 ?_
  refine g_iconst (v := (3 : Int32)) F dX5_idle_38 (by decide) ?_
  refine g_iload_n F dX5_idle_39 3 rfl ?_
  refine g_imul F dX5_idle_40 ?_
  refine g_iconst (v := (2 : Int32)) F dX5_idle_41 (by decide) ?_
  refine g_iadd F dX5_idle_42 ?_
  obtain ⟨hc, h⟩ := h
  refine g_iald (wf := mW (zg z) a E) F mA6 hc dX5_idle_43 ?_
  refine g_iconst (v := (1 : Int32)) F dX5_idle_44 (by decide) ?_
  refine g_icmp_ne F dX5_idle_45 (tgt := 63) (by decide) (fun c7 => ?_) (fun c7 => ?_)
  · replace h := h.1 c7
    obtain ⟨x8, ex8⟩ : ∃ q : Int32, q = l3 + (1 : Int32) := ⟨_, rfl⟩
    replace h := h x8 ex8
    refine g_iinc (lv' := [(3, .int x8), (0, .ref (a 0)), (1, .int l1), (2, .int l2)]) (d := (1 : Int32)) F dX5_idle_63 rfl 3 rfl (by decide) ex8.symm rfl ?_
    refine g_goto F dX5_idle_66 (tgt := 26) (by decide) ?_
    exact (g_sub [1, 2, 3, 0] rfl h)
  replace h := h.2 c7
  refine g_aload_n F dX5_idle_48 0 rfl ?_
  refine g_iload_n F dX5_idle_49 3 rfl ?_
  refine g_iload_n F dX5_idle_50 1 rfl ?_
  refine rX5_X5_dryWithout F dX5_idle_51 rfl h (fun r10 s9 h => ?_)
  refine rX5_X5_bitsOf F dX5_idle_54 rfl h (fun r11 h => ?_)
  refine g_iload_n F dX5_idle_57 2 rfl ?_
  refine g_icmp_lt F dX5_idle_58 (tgt := 63) (by decide) (fun c12 => ?_) (fun c12 => ?_)
  · replace h := h.1 c12
    obtain ⟨x13, ex13⟩ : ∃ q : Int32, q = l3 + (1 : Int32) := ⟨_, rfl⟩
    replace h := h x13 ex13
    refine g_iinc (lv' := [(3, .int x13), (0, .ref (a 0)), (1, .int l1), (2, .int l2)]) (d := (1 : Int32)) F dX5_idle_63 rfl 3 rfl (by decide) ex13.symm rfl ?_
    refine g_goto F dX5_idle_66 (tgt := 26) (by decide) ?_
    exact (g_sub [1, 2, 3, 0] rfl h)
  replace h := h.2 c12
  refine g_iload_n F dX5_idle_61 3 rfl ?_
  exact g_iret F R rfl rfl dX5_idle_62 ⟨_, _, rfl, rfl, h⟩
set_option maxRecDepth 20000 in
theorem ctX5_idle (l : Launch) (g : kG) (A : Nat → Prop) (a : Nat → Nat) (E : va_W) {l1 : Int32} {σ : kS} {Q : Int32 → kS → Prop} (h : wX5_idle l1 σ Q) : kCt l yX5_idle cX5_idle 4 (some .int) 48 1114 0 0 g A [.ref (a 0), .int l1] (mW g a E σ) (kPi (mW g a E) Q) := by
  refine kCt.of (lv0 := [(0, .ref (a 0)), (1, .int l1)]) (by decide +kernel) (Nat.le_of_ble_eq_true rfl) rfl (fun z hl hg hA F R => ?_)
  subst hl hg hA
  have F : kF z cX5_idle RX5 4 { frames := 48, cells := 0, slots := 0, locals := 1114 } := F
  unfold wX5_idle at h
  refine g_iload_n F dX5_idle_0 1 rfl ?_
  refine g_i2l F dX5_idle_1 ?_
  refine g_lconst (v := (0 : Int64)) F dX5_idle_2 (by decide) ?_
  refine g_ldc2 (v := (30 : Int64)) F dX5_idle_3 wq1259 ?_
  refine rX5_X5_in F dX5_idle_6 rfl h (fun r1 h => ?_)
  refine g_if_ne F dX5_idle_9 (tgt := 15) (by decide) (fun c2 => ?_) (fun c2 => ?_)
  · replace h := h.1 c2
    refine g_aload_n F dX5_idle_15 0 rfl ?_
    refine g_iload_n F dX5_idle_16 1 rfl ?_
    refine rX5_X5_dryBehind F dX5_idle_17 rfl h (fun r4 s3 h => ?_)
    refine rX5_X5_bitsOf F dX5_idle_20 rfl h (fun r5 h => ?_)
    refine g_istore_n (lv' := [(2, .int r5), (0, .ref (a 0)), (1, .int l1)]) F dX5_idle_23 rfl rfl ?_
    refine g_iconst (v := (0 : Int32)) F dX5_idle_24 (by decide) ?_
    refine g_istore_n (lv' := [(3, .int (0 : Int32)), (2, .int r5), (0, .ref (a 0)), (1, .int l1)]) F dX5_idle_25 rfl rfl ?_
    exact g_sub [2, 3, 1, 0] rfl (sX5_idle_26 F R h)
  replace h := h.2 c2
  refine g_bipush (v := (-2 : Int32)) F dX5_idle_12 (by decide) ?_
  exact g_iret F R rfl rfl dX5_idle_14 ⟨_, _, rfl, rfl, h⟩
set_option maxRecDepth 20000 in
theorem sX5_low_82 {z : kZ} {a : Nat → Nat} {E : va_W}  {Q : Int32 → kS → Prop} {l3 : Int32} {l4 : Int32} {σ : kS} (F : kF z cX5_low RX5 6 { frames := 47, cells := 0, slots := 0, locals := 1090 }) (R : kR z (some .int) 0 0 (kPi (mW (zg z) a E) Q)) (h : wX5_low_82 Q l3 l4 σ) : kV z (mW (zg z) a E σ) 0 0 82 [(0, .ref (a 0)), (3, .int l3), (4, .int l4)] [] := by
  unfold wX5_low_82 at h
  refine g_aload_n F dX5_low_82 0 rfl ?_
  refine g_iload_n F dX5_low_83 1 rfl ?_
  refine rpX5_X5_riverNow F dX5_low_84 ?_
  refine g_name (wf := mW (zg z) a E) (fun s15 es15 => ?_)
  replace h := h s15 es15
  refine g_iload F dX5_low_87 2 rfl ?_
  exact g_iret F R rfl rfl dX5_low_89 ⟨_, _, rfl, rfl, h⟩
set_option maxRecDepth 20000 in
theorem sX5_low_39 {z : kZ} {a : Nat → Nat} {E : va_W}  {Q : Int32 → kS → Prop} {l1 : Int32} {l2 : Int32} {l3 : Int32} {l4 : Int32} {l5 : Int32} {σ : kS} (F : kF z cX5_low RX5 6 { frames := 47, cells := 0, slots := 0, locals := 1090 }) (R : kR z (some .int) 0 0 (kPi (mW (zg z) a E) Q)) (h : wX5_low_39 Q l1 l2 l3 l4 l5 σ) : kV z (mW (zg z) a E σ) 0 0 39 [(0, .ref (a 0)), (1, .int l1), (2, .int l2), (3, .int l3), (4, .int l4), (5, .int l5)] [] := by
  unfold wX5_low_39 at h
  refine h (fun σ l4 l5 => kV z (mW (zg z) a E σ) 0 0 39 [(0, .ref (a 0)), (1, .int l1), (2, .int l2), (3, .int l3), (4, .int l4), (5, .int l5)] []) (fun σ l4 l5 h => ?_)
  refine g_iload F dX5_low_39 5 rfl ?_
  refine g_if_lt F dX5_low_41 (tgt := 82) (by decide) (fun c6 => ?_) (fun c6 => ?_)
  · replace h := h.1 c6
    exact g_sub [0, 3, 4] rfl (sX5_low_82 F R h)
  replace h := h.2 c6
  refine g_iload F dX5_low_44 4 rfl ?_
  refine g_iconst (v := (-1 : Int32)) F dX5_low_46 (by decide) ?_
  refine g_icmp_ne F dX5_low_47 (tgt := 82) (by decide) (fun c7 => ?_) (fun c7 => ?_)
  · replace h := h.1 c7
    exact g_sub [0, 3, 4] rfl (sX5_low_82 F R h)
  replace h := h.2 c7
  refine g_aload_n F dX5_low_50 0 rfl ?_
  refine g_iload F dX5_low_51 5 rfl ?_
  refine rpX5_X5_riverNow F dX5_low_53 ?_
  refine g_name (wf := mW (zg z) a E) (fun s8 es8 => ?_)
  replace h := h s8 es8
  refine g_aload_n F dX5_low_56 0 rfl ?_
  refine g_iload_n F dX5_low_57 1 rfl ?_
  refine rX5_X5_dryBehind F dX5_low_58 rfl h (fun r10 s9 h => ?_)
  refine rX5_X5_bitsOf F dX5_low_61 rfl h (fun r11 h => ?_)
  refine g_iload_n F dX5_low_64 2 rfl ?_
  refine g_icmp_lt F dX5_low_65 (tgt := 73) (by decide) (fun c12 => ?_) (fun c12 => ?_)
  · replace h := h.1 c12
    refine g_iconst (v := (-1 : Int32)) F dX5_low_73 (by decide) ?_
    refine g_istore (lv' := [(4, .int (-1 : Int32)), (0, .ref (a 0)), (1, .int l1), (2, .int l2), (3, .int l3), (5, .int l5)]) F dX5_low_74 rfl rfl ?_
    obtain ⟨x13, ex13⟩ : ∃ q : Int32, q = l5 + (-1 : Int32) := ⟨_, rfl⟩
    replace h := h x13 ex13
    refine g_iinc (lv' := [(5, .int x13), (4, .int (-1 : Int32)), (0, .ref (a 0)), (1, .int l1), (2, .int l2), (3, .int l3)]) (d := (-1 : Int32)) F dX5_low_76 rfl 5 rfl (by decide) ex13.symm rfl ?_
    refine g_goto F dX5_low_79 (tgt := 39) (by decide) ?_
    exact (g_sub [2, 3, 4, 5, 1, 0] rfl h)
  replace h := h.2 c12
  refine g_iload F dX5_low_68 5 rfl ?_
  refine g_goto F dX5_low_70 (tgt := 74) (by decide) ?_
  refine g_istore (lv' := [(4, .int l5), (0, .ref (a 0)), (1, .int l1), (2, .int l2), (3, .int l3), (5, .int l5)]) F dX5_low_74 rfl rfl ?_
  obtain ⟨x14, ex14⟩ : ∃ q : Int32, q = l5 + (-1 : Int32) := ⟨_, rfl⟩
  replace h := h x14 ex14
  refine g_iinc (lv' := [(5, .int x14), (4, .int l5), (0, .ref (a 0)), (1, .int l1), (2, .int l2), (3, .int l3)]) (d := (-1 : Int32)) F dX5_low_76 rfl 5 rfl (by decide) ex14.symm rfl ?_
  refine g_goto F dX5_low_79 (tgt := 39) (by decide) ?_
  exact (g_sub [2, 3, 4, 5, 1, 0] rfl h)
set_option maxRecDepth 20000 in
theorem ctX5_low (l : Launch) (g : kG) (A : Nat → Prop) (a : Nat → Nat) (E : va_W) {l1 : Int32} {l2 : Int32} {σ : kS} {Q : Int32 → kS → Prop} (h : wX5_low l1 l2 σ Q) : kCt l yX5_low cX5_low 6 (some .int) 47 1090 0 0 g A [.ref (a 0), .int l1, .int l2] (mW g a E σ) (kPi (mW g a E) Q) := by
  refine kCt.of (lv0 := [(0, .ref (a 0)), (1, .int l1), (2, .int l2)]) (by decide +kernel) (Nat.le_of_ble_eq_true rfl) rfl (fun z hl hg hA F R => ?_)
  subst hl hg hA
  have F : kF z cX5_low RX5 6 { frames := 47, cells := 0, slots := 0, locals := 1090 } := F
  unfold wX5_low at h
  refine g_iload_n F dX5_low_0 1 rfl ?_
  refine g_i2l F dX5_low_1 ?_
  refine g_lconst (v := (0 : Int64)) F dX5_low_2 (by decide) ?_
  refine g_ldc2 (v := (30 : Int64)) F dX5_low_3 wq1259 ?_
  refine rX5_X5_in F dX5_low_6 rfl h (fun r1 h => ?_)
  refine g_if_eq F dX5_low_9 (tgt := 24) (by decide) (fun c2 => ?_) (fun c2 => ?_)
  · replace h := h.1 c2
    refine g_bipush (v := (-2 : Int32)) F dX5_low_24 (by decide) ?_
    exact g_iret F R rfl rfl dX5_low_26 ⟨_, _, rfl, rfl, h⟩
  replace h := h.2 c2
  refine g_iload_n F dX5_low_12 2 rfl ?_
  refine g_i2l F dX5_low_13 ?_
  refine g_lconst (v := (1 : Int64)) F dX5_low_14 (by decide) ?_
  refine g_ldc2 (v := (12 : Int64)) F dX5_low_15 wq1277 ?_
  refine rX5_X5_in F dX5_low_18 rfl h (fun r3 h => ?_)
  refine g_if_ne F dX5_low_21 (tgt := 27) (by decide) (fun c4 => ?_) (fun c4 => ?_)
  · replace h := h.1 c4
    refine g_aload_n F dX5_low_27 0 rfl ?_
    refine rgX5_X5_riverNow F dX5_low_28 ?_
    refine g_topi (fun x5 ex5 => ?_)
    replace h := h x5 ex5
    refine g_istore_n (lv' := [(3, .int x5), (0, .ref (a 0)), (1, .int l1), (2, .int l2)]) F dX5_low_31 rfl rfl ?_
    refine g_iconst (v := (-1 : Int32)) F dX5_low_32 (by decide) ?_
    refine g_istore (lv' := [(4, .int (-1 : Int32)), (3, .int x5), (0, .ref (a 0)), (1, .int l1), (2, .int l2)]) F dX5_low_33 rfl rfl ?_
    refine g_bipush (v := (99 : Int32)) F dX5_low_35 (by decide) ?_
    refine g_istore (lv' := [(5, .int (99 : Int32)), (4, .int (-1 : Int32)), (3, .int x5), (0, .ref (a 0)), (1, .int l1), (2, .int l2)]) F dX5_low_37 rfl rfl ?_
    exact g_sub [3, 4, 5, 2, 1, 0] rfl (sX5_low_39 F R h)
  replace h := h.2 c4
  refine g_bipush (v := (-2 : Int32)) F dX5_low_24 (by decide) ?_
  exact g_iret F R rfl rfl dX5_low_26 ⟨_, _, rfl, rfl, h⟩
set_option maxRecDepth 20000 in
theorem ctX5_floods (l : Launch) (g : kG) (A : Nat → Prop) (a : Nat → Nat) (E : va_W) {l1 : Int32} {l2 : Int32} {σ : kS} {Q : Int32 → kS → Prop} (h : wX5_floods l1 l2 σ Q) : kCt l yX5_floods cX5_floods 4 (some .int) 48 1114 0 0 g A [.ref (a 0), .int l1, .int l2] (mW g a E σ) (kPi (mW g a E) Q) := by
  refine kCt.of (lv0 := [(0, .ref (a 0)), (1, .int l1), (2, .int l2)]) (by decide +kernel) (Nat.le_of_ble_eq_true rfl) rfl (fun z hl hg hA F R => ?_)
  subst hl hg hA
  have F : kF z cX5_floods RX5 4 { frames := 48, cells := 0, slots := 0, locals := 1114 } := F
  unfold wX5_floods at h
  refine g_aload_n F dX5_floods_0 0 rfl ?_
  refine g_iload_n F dX5_floods_1 1 rfl ?_
  refine rX5_X5_isWork F dX5_floods_2 rfl h (fun r2 s1 h => ?_)
  refine g_if_eq F dX5_floods_5 (tgt := 20) (by decide) (fun c3 => ?_) (fun c3 => ?_)
  · replace h := h.1 c3
    refine g_bipush (v := (-2 : Int32)) F dX5_floods_20 (by decide) ?_
    exact g_iret F R rfl rfl dX5_floods_22 ⟨_, _, rfl, rfl, h⟩
  replace h := h.2 c3
  refine g_iload_n F dX5_floods_8 2 rfl ?_
  refine g_i2l F dX5_floods_9 ?_
  refine g_lconst (v := (0 : Int64)) F dX5_floods_10 (by decide) ?_
  refine g_ldc2 (v := (30 : Int64)) F dX5_floods_11 wq1259 ?_
  refine rX5_X5_in F dX5_floods_14 rfl h (fun r4 h => ?_)
  refine g_if_ne F dX5_floods_17 (tgt := 23) (by decide) (fun c5 => ?_) (fun c5 => ?_)
  · replace h := h.1 c5
    refine g_aload_n F dX5_floods_23 0 rfl ?_
    refine g_iload_n F dX5_floods_24 1 rfl ?_
    refine g_iload_n F dX5_floods_25 2 rfl ?_
    refine rX5_X5_dryWithout F dX5_floods_26 rfl h (fun r7 s6 h => ?_)
    refine g_istore_n (lv' := [(3, .int r7), (0, .ref (a 0)), (1, .int l1), (2, .int l2)]) F dX5_floods_29 rfl rfl ?_
    refine g_iload_n F dX5_floods_30 0 rfl ?_
    refine g_aload_n F dX5_floods_31 1 rfl ?_
    refine g_iload_n F dX5_floods_32 3 rfl ?_
    refine rX5_X5_dryBehind F dX5_floods_33 rfl h (fun r9 s8 h => ?_)
    refine g_iconst (v := (-1 : Int32)) F dX5_floods_36 (by decide) ?_
    refine g_ixor F dX5_floods_37 ?_
    refine g_iand F dX5_floods_38 ?_
    exact g_iret F R rfl rfl dX5_floods_39 ⟨_, _, rfl, rfl, h⟩
  replace h := h.2 c5
  refine g_bipush (v := (-2 : Int32)) F dX5_floods_20 (by decide) ?_
  exact g_iret F R rfl rfl dX5_floods_22 ⟨_, _, rfl, rfl, h⟩
set_option maxRecDepth 20000 in
theorem sX5_firstOther_14 {z : kZ} {a : Nat → Nat} {E : va_W}  {Q : Int32 → kS → Prop} {l1 : Int32} {l2 : Int32} {σ : kS} (F : kF z cX5_firstOther RX5 3 { frames := 46, cells := 0, slots := 0, locals := 1069 }) (R : kR z (some .int) 0 0 (kPi (mW (zg z) a E) Q)) (h : wX5_firstOther_14 Q l1 l2 σ) : kV z (mW (zg z) a E σ) 0 0 14 [(0, .ref (a 0)), (1, .int l1), (2, .int l2)] [] := by
  unfold wX5_firstOther_14 at h
  refine h (fun l2 => kV z (mW (zg z) a E σ) 0 0 14 [(0, .ref (a 0)), (1, .int l1), (2, .int l2)] []) (fun l2 h => ?_)
  refine g_iload_n F dX5_firstOther_14 2 rfl ?_
  refine g_aload_n F dX5_firstOther_15 0 rfl ?_
  refine rgX5_X5_sheetSize F dX5_firstOther_16 ?_
  refine g_iload_n F dX5_firstOther_19 1 rfl ?_
  obtain ⟨hc, h⟩ := h
  refine g_iald (wf := mW (zg z) a E) F mA14 hc dX5_firstOther_20 ?_
  refine g_icmp_ge F dX5_firstOther_21 (tgt := 52) (by decide) (fun c2 => ?_) (fun c2 => ?_)
  · replace h := h.1 c2
    refine g_iconst (v := (-1 : Int32)) F dX5_firstOther_52 (by decide) ?_
    exact g_iret F R rfl rfl dX5_firstOther_53 ⟨_, _, rfl, rfl, h⟩
  replace h := h.2 c2
  refine g_aload_n F dX5_firstOther_24 0 rfl ?_
  refine rgX5_X5_dryRow F dX5_firstOther_25 ?_
  refine g_iload_n F dX5_firstOther_28 2 rfl ?_
  obtain ⟨hc, h⟩ := h
  refine g_iald (wf := mW (zg z) a E) F mA9 hc dX5_firstOther_29 ?_
  refine g_aload_n F dX5_firstOther_30 0 rfl ?_
  refine rgX5_X5_items F dX5_firstOther_31 ?_
  refine g_bipush (v := (40 : Int32)) F dX5_firstOther_34 (by decide) ?_
  refine g_iload_n F dX5_firstOther_36 1 rfl ?_
  refine g_imul F dX5_firstOther_37 ?_
  refine g_iload_n F dX5_firstOther_38 2 rfl ?_
  refine g_iadd F dX5_firstOther_39 ?_
  obtain ⟨hc, h⟩ := h
  refine g_iald (wf := mW (zg z) a E) F mA15 hc dX5_firstOther_40 ?_
  refine g_icmp_eq F dX5_firstOther_41 (tgt := 46) (by decide) (fun c3 => ?_) (fun c3 => ?_)
  · replace h := h.1 c3
    obtain ⟨x4, ex4⟩ : ∃ q : Int32, q = l2 + (1 : Int32) := ⟨_, rfl⟩
    replace h := h x4 ex4
    refine g_iinc (lv' := [(2, .int x4), (0, .ref (a 0)), (1, .int l1)]) (d := (1 : Int32)) F dX5_firstOther_46 rfl 2 rfl (by decide) ex4.symm rfl ?_
    refine g_goto F dX5_firstOther_49 (tgt := 14) (by decide) ?_
    exact (g_sub [1, 2, 0] rfl h)
  replace h := h.2 c3
  refine g_iload_n F dX5_firstOther_44 2 rfl ?_
  exact g_iret F R rfl rfl dX5_firstOther_45 ⟨_, _, rfl, rfl, h⟩
set_option maxRecDepth 20000 in
theorem ctX5_firstOther (l : Launch) (g : kG) (A : Nat → Prop) (a : Nat → Nat) (E : va_W) {l1 : Int32} {σ : kS} {Q : Int32 → kS → Prop} (h : wX5_firstOther l1 σ Q) : kCt l yX5_firstOther cX5_firstOther 3 (some .int) 46 1069 0 0 g A [.ref (a 0), .int l1] (mW g a E σ) (kPi (mW g a E) Q) := by
  refine kCt.of (lv0 := [(0, .ref (a 0)), (1, .int l1)]) (by decide +kernel) (Nat.le_of_ble_eq_true rfl) rfl (fun z hl hg hA F R => ?_)
  subst hl hg hA
  have F : kF z cX5_firstOther RX5 3 { frames := 46, cells := 0, slots := 0, locals := 1069 } := F
  unfold wX5_firstOther at h
  refine g_aload_n F dX5_firstOther_0 0 rfl ?_
  refine g_aload_n F dX5_firstOther_1 0 rfl ?_
  refine rgX5_X5_sheetSize F dX5_firstOther_2 ?_
  refine g_iload_n F dX5_firstOther_5 1 rfl ?_
  obtain ⟨hc, h⟩ := h
  refine g_iald (wf := mW (zg z) a E) F mA14 hc dX5_firstOther_6 ?_
  refine g_iconst (v := (0 : Int32)) F dX5_firstOther_7 (by decide) ?_
  refine g_iconst (v := (0 : Int32)) F dX5_firstOther_8 (by decide) ?_
  refine rX5_X5_runs F dX5_firstOther_9 rfl h (fun s1 h => ?_)
  refine g_iconst (v := (0 : Int32)) F dX5_firstOther_12 (by decide) ?_
  refine g_istore_n (lv' := [(2, .int (0 : Int32)), (0, .ref (a 0)), (1, .int l1)]) F dX5_firstOther_13 rfl rfl ?_
  exact g_sub [1, 2, 0] rfl (sX5_firstOther_14 F R h)
set_option maxRecDepth 20000 in
theorem ctX5_isSheet (l : Launch) (g : kG) (A : Nat → Prop) (ws : va_W) {l0 : Int32} {Q : Int32 → Prop} (h : wX5_isSheet l0 Q) : kCt l yX5_isSheet cX5_isSheet 1 (some .boolean) 1 65 0 0 g A [.int l0] ws (kTi ws Q) := by
  refine kCt.of (lv0 := [(0, .int l0)]) (by decide +kernel) (Nat.le_of_ble_eq_true rfl) rfl (fun z hl hg hA F R => ?_)
  subst hl hg hA
  have F : kF z cX5_isSheet RX5 1 { frames := 1, cells := 0, slots := 0, locals := 65 } := F
  unfold wX5_isSheet at h
  refine g_iload_n F dX5_isSheet_0 0 rfl ?_
  refine g_i2l F dX5_isSheet_1 ?_
  refine g_lconst (v := (0 : Int64)) F dX5_isSheet_2 (by decide) ?_
  refine g_ldc2 (v := (3 : Int64)) F dX5_isSheet_3 wq1258 ?_
  refine rX5_X5_in F dX5_isSheet_6 rfl h (fun r1 h => ?_)
  obtain ⟨hz, h⟩ := h
  exact g_zret F R (kBool hz) rfl rfl dX5_isSheet_9 ⟨_, rfl, rfl, h⟩
theorem plX5_isSheet : kPlain yX5_isSheet 1 = true := by decide +kernel
theorem rX5_X5_isSheet {z : kZ} {cc : ByteArray} {nL : Nat} {rm : Room} {c n pc : Nat} {lv : List (Nat × Value)} {st : List Value} {ws : va_W} {l0 : Int32} {Q : Int32 → Prop} (F : kF z cc RX5 nL rm) (hd : decode cc pc = .ok (.invokestatic 402, 3)) (hf : kFits rm 1 65 0 0 1 c n st = true) (h : wX5_isSheet l0 Q) (k : ∀ v : Int32, Q v → kV z ws c n (pc + 3) lv (.int v :: st)) : kV z ws c n pc lv (.int l0 :: st) := g_callS F (av := [.int l0]) (ctX5_isSheet _ _ _ ws h) wq1307 wq1308 wq114 wq1309 plX5_isSheet hd hf (fun r ws' hq => by
    obtain ⟨v, rfl, rfl, hq⟩ := hq
    exact k v hq)
theorem plX5_firstOther : kPlain yX5_firstOther 1 = true := by decide +kernel
theorem rX5_X5_firstOther {z : kZ} {cc : ByteArray} {nL : Nat} {rm : Room} {c n pc : Nat} {lv : List (Nat × Value)} {st : List Value} {a : Nat → Nat} {E : va_W} {σ : kS} {l1 : Int32} {Q : Int32 → kS → Prop} (F : kF z cc RX5 nL rm) (hd : decode cc pc = .ok (.invokevirtual 407, 3)) (hf : kFits rm 46 1069 0 0 3 c n st = true) (h : wX5_firstOther l1 σ Q) (k : ∀ (v : Int32) (σ' : kS), Q v σ' → kV z (mW (zg z) a E σ') c n (pc + 3) lv (.int v :: st)) : kV z (mW (zg z) a E σ) c n pc lv (.int l1 :: .ref (a 0) :: st) := by
  exact g_callV F (av := [.int l1]) (ctX5_firstOther _ _ _ a E h) (ci := 5) (q0 := 0) rfl rfl rfl wq1311 wq1313 wq106 wq114 wq1314 plX5_firstOther hd hf (fun r ws' hq => by
    obtain ⟨v, σ', rfl, rfl, hq⟩ := hq
    exact k v σ' hq)
set_option maxRecDepth 20000 in
theorem sX5_tells_241 {z : kZ} {a : Nat → Nat} {E : va_W}  {Q : Int32 → kS → Prop} {P201 : kS → Int32 → Int32 → Int32 → Int32 → Prop} {l1 : Int32} {l2 : Int32} {l3 : Int32} {l4 : Int32} {l5 : Int32} {l6 : Int32} {l8 : Int32} {l10 : Int32} {ks0 : Int32} {ks1 : Int32} {σ : kS} (F : kF z cX5_tells RX5 11 { frames := 47, cells := 0, slots := 0, locals := 1091 }) (R : kR z (some .int) 0 0 (kPi (mW (zg z) a E) Q)) (hP201 : ∀ (σ : kS) (l7 : Int32) (l8 : Int32) (l9 : Int32) (l10 : Int32), P201 σ l7 l8 l9 l10 → kV z (mW (zg z) a E σ) 0 0 201 [(0, .ref (a 0)), (1, .int l1), (2, .int l2), (3, .int l3), (4, .int l4), (5, .int l5), (6, .int l6), (7, .int l7), (8, .int l8), (9, .int l9), (10, .int l10)] []) (h : wX5_tells_241 Q P201 l1 l2 l3 l4 l5 l6 l8 l10 ks0 ks1 σ) : kV z (mW (zg z) a E σ) 0 0 241 [(0, .ref (a 0)), (1, .int l1), (2, .int l2), (3, .int l3), (4, .int l4), (5, .int l5), (6, .int l6), (8, .int l8), (10, .int l10)] [.int ks0, .int ks1] := by
  unfold wX5_tells_241 at h
  refine g_ior F dX5_tells_241 ?_
  refine g_topi (fun x36 ex36 => ?_)
  replace h := h x36 ex36
  refine g_istore (lv' := [(7, .int x36), (0, .ref (a 0)), (1, .int l1), (2, .int l2), (3, .int l3), (4, .int l4), (5, .int l5), (6, .int l6), (8, .int l8), (10, .int l10)]) F dX5_tells_242 rfl rfl ?_
  obtain ⟨x37, ex37⟩ : ∃ q : Int32, q = l8 + (1 : Int32) := ⟨_, rfl⟩
  replace h := h x37 ex37
  refine g_iinc (lv' := [(8, .int x37), (7, .int x36), (0, .ref (a 0)), (1, .int l1), (2, .int l2), (3, .int l3), (4, .int l4), (5, .int l5), (6, .int l6), (10, .int l10)]) (d := (1 : Int32)) F dX5_tells_244 rfl 8 rfl (by decide) ex37.symm rfl ?_
  refine g_iload F dX5_tells_247 9 rfl ?_
  refine g_istore (lv' := [(9, .int l10), (8, .int x37), (7, .int x36), (0, .ref (a 0)), (1, .int l1), (2, .int l2), (3, .int l3), (4, .int l4), (5, .int l5), (6, .int l6), (10, .int l10)]) F dX5_tells_249 rfl rfl ?_
  obtain ⟨x38, ex38⟩ : ∃ q : Int32, q = l10 + (1 : Int32) := ⟨_, rfl⟩
  replace h := h x38 ex38
  refine g_iinc (lv' := [(10, .int x38), (9, .int l10), (8, .int x37), (7, .int x36), (0, .ref (a 0)), (1, .int l1), (2, .int l2), (3, .int l3), (4, .int l4), (5, .int l5), (6, .int l6)]) (d := (1 : Int32)) F dX5_tells_251 rfl 10 rfl (by decide) ex38.symm rfl ?_
  refine g_goto F dX5_tells_254 (tgt := 201) (by decide) ?_
  exact g_sub [4, 5, 6, 7, 8, 9, 10, 3, 2, 1, 0] rfl (hP201 _ _ _ _ _ h)
set_option maxRecDepth 20000 in
theorem sX5_tells_201 {z : kZ} {a : Nat → Nat} {E : va_W}  {Q : Int32 → kS → Prop} {l1 : Int32} {l2 : Int32} {l3 : Int32} {l4 : Int32} {l5 : Int32} {l6 : Int32} {l7 : Int32} {l8 : Int32} {l9 : Int32} {l10 : Int32} {σ : kS} (F : kF z cX5_tells RX5 11 { frames := 47, cells := 0, slots := 0, locals := 1091 }) (R : kR z (some .int) 0 0 (kPi (mW (zg z) a E) Q)) (h : wX5_tells_201 Q l1 l2 l3 l4 l5 l6 l7 l8 l9 l10 σ) : kV z (mW (zg z) a E σ) 0 0 201 [(0, .ref (a 0)), (1, .int l1), (2, .int l2), (3, .int l3), (4, .int l4), (5, .int l5), (6, .int l6), (7, .int l7), (8, .int l8), (9, .int l9), (10, .int l10)] [] := by
  unfold wX5_tells_201 at h
  refine h (fun σ l7 l8 l9 l10 => kV z (mW (zg z) a E σ) 0 0 201 [(0, .ref (a 0)), (1, .int l1), (2, .int l2), (3, .int l3), (4, .int l4), (5, .int l5), (6, .int l6), (7, .int l7), (8, .int l8), (9, .int l9), (10, .int l10)] []) (fun σ l7 l8 l9 l10 h => ?_)
  refine g_iload F dX5_tells_201 10 rfl ?_
  refine g_iload F dX5_tells_203 6 rfl ?_
  refine g_icmp_gt F dX5_tells_205 (tgt := 257) (by decide) (fun c26 => ?_) (fun c26 => ?_)
  · replace h := h.1 c26
    refine g_aload_n F dX5_tells_257 0 rfl ?_
    refine g_iload F dX5_tells_258 4 rfl ?_
    refine g_iload_n F dX5_tells_260 3 rfl ?_
    refine g_iload F dX5_tells_261 5 rfl ?_
    refine rX5_X5_lays F dX5_tells_263 rfl h (fun s27 h => ?_)
    refine g_iload_n F dX5_tells_266 2 rfl ?_
    refine g_iconst (v := (2 : Int32)) F dX5_tells_267 (by decide) ?_
    refine g_icmp_ne F dX5_tells_268 (tgt := 276) (by decide) (fun c28 => ?_) (fun c28 => ?_)
    · replace h := h.1 c28
      refine g_iload_n F dX5_tells_276 2 rfl ?_
      refine g_iconst (v := (3 : Int32)) F dX5_tells_277 (by decide) ?_
      refine g_icmp_ne F dX5_tells_278 (tgt := 286) (by decide) (fun c29 => ?_) (fun c29 => ?_)
      · replace h := h.1 c29
        refine g_iload F dX5_tells_286 7 rfl ?_
        exact g_iret F R rfl rfl dX5_tells_288 ⟨_, _, rfl, rfl, h⟩
      replace h := h.2 c29
      refine g_iload F dX5_tells_281 9 rfl ?_
      refine g_goto F dX5_tells_283 (tgt := 288) (by decide) ?_
      exact g_iret F R rfl rfl dX5_tells_288 ⟨_, _, rfl, rfl, h⟩
    replace h := h.2 c28
    refine g_iload F dX5_tells_271 8 rfl ?_
    refine g_goto F dX5_tells_273 (tgt := 288) (by decide) ?_
    exact g_iret F R rfl rfl dX5_tells_288 ⟨_, _, rfl, rfl, h⟩
  replace h := h.2 c26
  refine g_aload_n F dX5_tells_208 0 rfl ?_
  refine g_iload F dX5_tells_209 4 rfl ?_
  refine g_iload_n F dX5_tells_211 3 rfl ?_
  refine g_iload F dX5_tells_212 10 rfl ?_
  refine rX5_X5_lays F dX5_tells_214 rfl h (fun s30 h => ?_)
  refine g_aload_n F dX5_tells_217 0 rfl ?_
  refine g_iload_n F dX5_tells_218 1 rfl ?_
  refine rX5_X5_firstOther F dX5_tells_219 rfl h (fun r32 s31 h => ?_)
  refine g_iconst (v := (-1 : Int32)) F dX5_tells_222 (by decide) ?_
  refine g_icmp_ne F dX5_tells_223 (tgt := 251) (by decide) (fun c33 => ?_) (fun c33 => ?_)
  · replace h := h.1 c33
    obtain ⟨x34, ex34⟩ : ∃ q : Int32, q = l10 + (1 : Int32) := ⟨_, rfl⟩
    replace h := h x34 ex34
    refine g_iinc (lv' := [(10, .int x34), (0, .ref (a 0)), (1, .int l1), (2, .int l2), (3, .int l3), (4, .int l4), (5, .int l5), (6, .int l6), (7, .int l7), (8, .int l8), (9, .int l9)]) (d := (1 : Int32)) F dX5_tells_251 rfl 10 rfl (by decide) ex34.symm rfl ?_
    refine g_goto F dX5_tells_254 (tgt := 201) (by decide) ?_
    exact (g_sub [1, 2, 3, 4, 5, 6, 7, 8, 9, 10, 0] rfl h)
  replace h := h.2 c33
  refine g_iload F dX5_tells_226 7 rfl ?_
  refine g_iload F dX5_tells_228 4 rfl ?_
  refine g_if_ne F dX5_tells_230 (tgt := 237) (by decide) (fun c35 => ?_) (fun c35 => ?_)
  · replace h := h.1 c35
    refine g_iconst (v := (1 : Int32)) F dX5_tells_237 (by decide) ?_
    refine g_iload F dX5_tells_238 10 rfl ?_
    refine g_ishl F dX5_tells_240 ?_
    exact g_sub [0, 1, 2, 3, 4, 5, 6, 8, 10] rfl (sX5_tells_241 F R (fun _ _ _ _ _ h => h) h)
  replace h := h.2 c35
  refine g_iconst (v := (0 : Int32)) F dX5_tells_233 (by decide) ?_
  refine g_goto F dX5_tells_234 (tgt := 241) (by decide) ?_
  exact g_sub [0, 1, 2, 3, 4, 5, 6, 8, 10] rfl (sX5_tells_241 F R (fun _ _ _ _ _ h => h) h)
set_option maxRecDepth 20000 in
theorem sX5_tells_187 {z : kZ} {a : Nat → Nat} {E : va_W}  {Q : Int32 → kS → Prop} {l1 : Int32} {l2 : Int32} {l3 : Int32} {l4 : Int32} {l5 : Int32} {ks0 : Int32} {σ : kS} (F : kF z cX5_tells RX5 11 { frames := 47, cells := 0, slots := 0, locals := 1091 }) (R : kR z (some .int) 0 0 (kPi (mW (zg z) a E) Q)) (h : wX5_tells_187 Q l1 l2 l3 l4 l5 ks0 σ) : kV z (mW (zg z) a E σ) 0 0 187 [(0, .ref (a 0)), (1, .int l1), (2, .int l2), (3, .int l3), (4, .int l4), (5, .int l5)] [.int ks0] := by
  unfold wX5_tells_187 at h
  refine g_istore (lv' := [(6, .int ks0), (0, .ref (a 0)), (1, .int l1), (2, .int l2), (3, .int l3), (4, .int l4), (5, .int l5)]) F dX5_tells_187 rfl rfl ?_
  refine g_iconst (v := (0 : Int32)) F dX5_tells_189 (by decide) ?_
  refine g_istore (lv' := [(7, .int (0 : Int32)), (6, .int ks0), (0, .ref (a 0)), (1, .int l1), (2, .int l2), (3, .int l3), (4, .int l4), (5, .int l5)]) F dX5_tells_190 rfl rfl ?_
  refine g_iconst (v := (0 : Int32)) F dX5_tells_192 (by decide) ?_
  refine g_istore (lv' := [(8, .int (0 : Int32)), (7, .int (0 : Int32)), (6, .int ks0), (0, .ref (a 0)), (1, .int l1), (2, .int l2), (3, .int l3), (4, .int l4), (5, .int l5)]) F dX5_tells_193 rfl rfl ?_
  refine g_iconst (v := (-1 : Int32)) F dX5_tells_195 (by decide) ?_
  refine g_istore (lv' := [(9, .int (-1 : Int32)), (8, .int (0 : Int32)), (7, .int (0 : Int32)), (6, .int ks0), (0, .ref (a 0)), (1, .int l1), (2, .int l2), (3, .int l3), (4, .int l4), (5, .int l5)]) F dX5_tells_196 rfl rfl ?_
  refine g_iconst (v := (0 : Int32)) F dX5_tells_198 (by decide) ?_
  refine g_istore (lv' := [(10, .int (0 : Int32)), (9, .int (-1 : Int32)), (8, .int (0 : Int32)), (7, .int (0 : Int32)), (6, .int ks0), (0, .ref (a 0)), (1, .int l1), (2, .int l2), (3, .int l3), (4, .int l4), (5, .int l5)]) F dX5_tells_199 rfl rfl ?_
  exact g_sub [5, 6, 7, 8, 9, 10, 4, 3, 2, 1, 0] rfl (sX5_tells_201 F R h)
set_option maxRecDepth 20000 in
theorem sX5_tells_153 {z : kZ} {a : Nat → Nat} {E : va_W}  {Q : Int32 → kS → Prop} {l1 : Int32} {l2 : Int32} {l3 : Int32} {l4 : Int32} {ks0 : Int32} {σ : kS} (F : kF z cX5_tells RX5 11 { frames := 47, cells := 0, slots := 0, locals := 1091 }) (R : kR z (some .int) 0 0 (kPi (mW (zg z) a E) Q)) (h : wX5_tells_153 Q l1 l2 l3 l4 ks0 σ) : kV z (mW (zg z) a E σ) 0 0 153 [(0, .ref (a 0)), (1, .int l1), (2, .int l2), (3, .int l3), (4, .int l4)] [.int ks0] := by
  unfold wX5_tells_153 at h
  refine g_istore (lv' := [(5, .int ks0), (0, .ref (a 0)), (1, .int l1), (2, .int l2), (3, .int l3), (4, .int l4)]) F dX5_tells_153 rfl rfl ?_
  refine g_iload F dX5_tells_155 5 rfl ?_
  refine g_bipush (v := (9 : Int32)) F dX5_tells_157 (by decide) ?_
  refine g_icmp_ne F dX5_tells_159 (tgt := 171) (by decide) (fun c23 => ?_) (fun c23 => ?_)
  · replace h := h.1 c23
    refine g_iload F dX5_tells_171 5 rfl ?_
    refine g_bipush (v := (8 : Int32)) F dX5_tells_173 (by decide) ?_
    refine g_icmp_ne F dX5_tells_175 (tgt := 182) (by decide) (fun c24 => ?_) (fun c24 => ?_)
    · replace h := h.1 c24
      refine g_iload F dX5_tells_182 5 rfl ?_
      refine rX5_X5_mostOf F dX5_tells_184 rfl h (fun r25 h => ?_)
      exact g_sub [1, 2, 3, 4, 5, 0] rfl (sX5_tells_187 F R h)
    replace h := h.2 c24
    refine g_iconst (v := (5 : Int32)) F dX5_tells_178 (by decide) ?_
    refine g_goto F dX5_tells_179 (tgt := 187) (by decide) ?_
    exact g_sub [1, 2, 3, 4, 5, 0] rfl (sX5_tells_187 F R h)
  replace h := h.2 c23
  refine g_aload_n F dX5_tells_162 1 rfl ?_
  refine rgX5_X5_textCount F dX5_tells_163 ?_
  refine g_iconst (v := (1 : Int32)) F dX5_tells_166 (by decide) ?_
  refine g_isub F dX5_tells_167 ?_
  refine g_goto F dX5_tells_168 (tgt := 187) (by decide) ?_
  exact g_sub [1, 2, 3, 4, 5, 0] rfl (sX5_tells_187 F R h)
set_option maxRecDepth 20000 in
theorem sX5_tells_130 {z : kZ} {a : Nat → Nat} {E : va_W}  {Q : Int32 → kS → Prop} {l1 : Int32} {l2 : Int32} {l3 : Int32} {ks0 : Int32} {σ : kS} (F : kF z cX5_tells RX5 11 { frames := 47, cells := 0, slots := 0, locals := 1091 }) (R : kR z (some .int) 0 0 (kPi (mW (zg z) a E) Q)) (h : wX5_tells_130 Q l1 l2 l3 ks0 σ) : kV z (mW (zg z) a E σ) 0 0 130 [(0, .ref (a 0)), (1, .int l1), (2, .int l2), (3, .int l3)] [.int ks0] := by
  unfold wX5_tells_130 at h
  refine g_istore (lv' := [(4, .int ks0), (0, .ref (a 0)), (1, .int l1), (2, .int l2), (3, .int l3)]) F dX5_tells_130 rfl rfl ?_
  refine g_iload F dX5_tells_132 0 rfl ?_
  refine g_bipush (v := (9 : Int32)) F dX5_tells_134 (by decide) ?_
  refine g_icmp_ne F dX5_tells_136 (tgt := 146) (by decide) (fun c20 => ?_) (fun c20 => ?_)
  · replace h := h.1 c20
    refine g_aload_n F dX5_tells_146 1 rfl ?_
    refine g_iload_n F dX5_tells_147 4 rfl ?_
    refine g_iload F dX5_tells_148 0 rfl ?_
    refine rX5_X5_told F dX5_tells_150 rfl h (fun r22 s21 h => ?_)
    exact g_sub [1, 2, 3, 4, 0] rfl (sX5_tells_153 F R h)
  replace h := h.2 c20
  refine g_aload_n F dX5_tells_139 1 rfl ?_
  refine rgX5_X5_rule F dX5_tells_140 ?_
  refine g_goto F dX5_tells_143 (tgt := 153) (by decide) ?_
  exact g_sub [1, 2, 3, 4, 0] rfl (sX5_tells_153 F R h)
set_option maxRecDepth 20000 in
theorem sX5_tells_47 {z : kZ} {a : Nat → Nat} {E : va_W}  {Q : Int32 → kS → Prop} {l1 : Int32} {l2 : Int32} {σ : kS} (F : kF z cX5_tells RX5 11 { frames := 47, cells := 0, slots := 0, locals := 1091 }) (R : kR z (some .int) 0 0 (kPi (mW (zg z) a E) Q)) (h : wX5_tells_47 Q l1 l2 σ) : kV z (mW (zg z) a E σ) 0 0 47 [(0, .ref (a 0)), (1, .int l1), (2, .int l2)] [] := by
  unfold wX5_tells_47 at h
  refine g_aload_n F dX5_tells_47 0 rfl ?_
  refine rgX5_X5_isThere F dX5_tells_48 ?_
  refine g_iload_n F dX5_tells_51 1 rfl ?_
  obtain ⟨hc, h⟩ := h
  refine g_zald (wf := mW (zg z) a E) F mA12 hc dX5_tells_52 ?_
  refine g_if_ne F dX5_tells_53 (tgt := 59) (by decide) (fun c10 => ?_) (fun c10 => ?_)
  · replace h := h.1 c10
    refine g_aload_n F dX5_tells_59 0 rfl ?_
    refine rgX5_X5_sheetSize F dX5_tells_60 ?_
    refine g_iload_n F dX5_tells_63 1 rfl ?_
    obtain ⟨hc, h⟩ := h
    refine g_iald (wf := mW (zg z) a E) F mA14 hc dX5_tells_64 ?_
    refine g_bipush (v := (30 : Int32)) F dX5_tells_65 (by decide) ?_
    refine g_icmp_le F dX5_tells_67 (tgt := 73) (by decide) (fun c11 => ?_) (fun c11 => ?_)
    · replace h := h.1 c11
      refine g_iload_n F dX5_tells_73 2 rfl ?_
      refine g_if_ne F dX5_tells_74 (tgt := 83) (by decide) (fun c12 => ?_) (fun c12 => ?_)
      · replace h := h.1 c12
        refine g_iload_n F dX5_tells_83 2 rfl ?_
        refine g_bipush (v := (10 : Int32)) F dX5_tells_84 (by decide) ?_
        refine g_irem F dX5_tells_86 (by decide) ?_
        refine g_topi (fun x13 ex13 => ?_)
        replace h := h x13 ex13
        refine g_istore_n (lv' := [(3, .int x13), (0, .ref (a 0)), (1, .int l1), (2, .int l2)]) F dX5_tells_87 rfl rfl ?_
        refine g_iload_n F dX5_tells_88 3 rfl ?_
        refine g_iconst (v := (1 : Int32)) F dX5_tells_89 (by decide) ?_
        refine g_icmp_ne F dX5_tells_90 (tgt := 98) (by decide) (fun c14 => ?_) (fun c14 => ?_)
        · replace h := h.1 c14
          refine g_iload_n F dX5_tells_98 3 rfl ?_
          refine g_iconst (v := (4 : Int32)) F dX5_tells_99 (by decide) ?_
          refine g_icmp_ge F dX5_tells_100 (tgt := 107) (by decide) (fun c15 => ?_) (fun c15 => ?_)
          · replace h := h.1 c15
            refine g_iload_n F dX5_tells_107 3 rfl ?_
            refine g_bipush (v := (20 : Int32)) F dX5_tells_108 (by decide) ?_
            refine g_icmp_ge F dX5_tells_110 (tgt := 118) (by decide) (fun c16 => ?_) (fun c16 => ?_)
            · replace h := h.1 c16
              refine g_iload_n F dX5_tells_118 3 rfl ?_
              refine g_bipush (v := (30 : Int32)) F dX5_tells_119 (by decide) ?_
              refine g_icmp_ge F dX5_tells_121 (tgt := 128) (by decide) (fun c17 => ?_) (fun c17 => ?_)
              · replace h := h.1 c17
                refine g_bipush (v := (6 : Int32)) F dX5_tells_128 (by decide) ?_
                exact g_sub [1, 2, 3, 0] rfl (sX5_tells_130 F R h)
              replace h := h.2 c17
              refine g_iconst (v := (5 : Int32)) F dX5_tells_124 (by decide) ?_
              refine g_goto F dX5_tells_125 (tgt := 130) (by decide) ?_
              exact g_sub [1, 2, 3, 0] rfl (sX5_tells_130 F R h)
            replace h := h.2 c16
            refine g_bipush (v := (8 : Int32)) F dX5_tells_113 (by decide) ?_
            refine g_goto F dX5_tells_115 (tgt := 130) (by decide) ?_
            exact g_sub [1, 2, 3, 0] rfl (sX5_tells_130 F R h)
          replace h := h.2 c15
          refine g_iconst (v := (0 : Int32)) F dX5_tells_103 (by decide) ?_
          refine g_goto F dX5_tells_104 (tgt := 130) (by decide) ?_
          exact g_sub [1, 2, 3, 0] rfl (sX5_tells_130 F R h)
        replace h := h.2 c14
        refine g_bipush (v := (9 : Int32)) F dX5_tells_93 (by decide) ?_
        refine g_goto F dX5_tells_95 (tgt := 130) (by decide) ?_
        exact g_sub [1, 2, 3, 0] rfl (sX5_tells_130 F R h)
      replace h := h.2 c12
      refine g_aload_n F dX5_tells_77 0 rfl ?_
      refine g_iload_n F dX5_tells_78 1 rfl ?_
      refine rX5_X5_firstOther F dX5_tells_79 rfl h (fun r19 s18 h => ?_)
      exact g_iret F R rfl rfl dX5_tells_82 ⟨_, _, rfl, rfl, h⟩
    replace h := h.2 c11
    refine g_bipush (v := (-2 : Int32)) F dX5_tells_70 (by decide) ?_
    exact g_iret F R rfl rfl dX5_tells_72 ⟨_, _, rfl, rfl, h⟩
  replace h := h.2 c10
  refine g_bipush (v := (-11 : Int32)) F dX5_tells_56 (by decide) ?_
  exact g_iret F R rfl rfl dX5_tells_58 ⟨_, _, rfl, rfl, h⟩
set_option maxRecDepth 20000 in
theorem ctX5_tells (l : Launch) (g : kG) (A : Nat → Prop) (a : Nat → Nat) (E : va_W) {l1 : Int32} {l2 : Int32} {σ : kS} {Q : Int32 → kS → Prop} (h : wX5_tells l1 l2 σ Q) : kCt l yX5_tells cX5_tells 11 (some .int) 47 1091 0 0 g A [.ref (a 0), .int l1, .int l2] (mW g a E σ) (kPi (mW g a E) Q) := by
  refine kCt.of (lv0 := [(0, .ref (a 0)), (1, .int l1), (2, .int l2)]) (by decide +kernel) (Nat.le_of_ble_eq_true rfl) rfl (fun z hl hg hA F R => ?_)
  subst hl hg hA
  have F : kF z cX5_tells RX5 11 { frames := 47, cells := 0, slots := 0, locals := 1091 } := F
  unfold wX5_tells at h
  refine g_iload_n F dX5_tells_0 1 rfl ?_
  refine rX5_X5_isSheet F dX5_tells_1 rfl h (fun r1 h => ?_)
  refine g_if_eq F dX5_tells_4 (tgt := 44) (by decide) (fun c2 => ?_) (fun c2 => ?_)
  · replace h := h.1 c2
    refine g_bipush (v := (-2 : Int32)) F dX5_tells_44 (by decide) ?_
    exact g_iret F R rfl rfl dX5_tells_46 ⟨_, _, rfl, rfl, h⟩
  replace h := h.2 c2
  refine g_iload_n F dX5_tells_7 2 rfl ?_
  refine g_i2l F dX5_tells_8 ?_
  refine g_lconst (v := (0 : Int64)) F dX5_tells_9 (by decide) ?_
  refine g_ldc2 (v := (3 : Int64)) F dX5_tells_10 wq1258 ?_
  refine rX5_X5_in F dX5_tells_13 rfl h (fun r3 h => ?_)
  refine g_if_ne F dX5_tells_16 (tgt := 47) (by decide) (fun c4 => ?_) (fun c4 => ?_)
  · replace h := h.1 c4
    exact (sX5_tells_47 F R h)
  replace h := h.2 c4
  refine g_iload_n F dX5_tells_19 2 rfl ?_
  refine g_i2l F dX5_tells_20 ?_
  refine g_ldc2 (v := (10 : Int64)) F dX5_tells_21 wq980 ?_
  refine g_ldc2 (v := (39 : Int64)) F dX5_tells_24 wq1310 ?_
  refine rX5_X5_in F dX5_tells_27 rfl h (fun r5 h => ?_)
  refine g_if_eq F dX5_tells_30 (tgt := 44) (by decide) (fun c6 => ?_) (fun c6 => ?_)
  · replace h := h.1 c6
    refine g_bipush (v := (-2 : Int32)) F dX5_tells_44 (by decide) ?_
    exact g_iret F R rfl rfl dX5_tells_46 ⟨_, _, rfl, rfl, h⟩
  replace h := h.2 c6
  refine g_aload_n F dX5_tells_33 0 rfl ?_
  refine g_iload_n F dX5_tells_34 2 rfl ?_
  refine g_bipush (v := (10 : Int32)) F dX5_tells_35 (by decide) ?_
  refine g_irem F dX5_tells_37 (by decide) ?_
  refine rX5_X5_isWork F dX5_tells_38 rfl h (fun r8 s7 h => ?_)
  refine g_if_ne F dX5_tells_41 (tgt := 47) (by decide) (fun c9 => ?_) (fun c9 => ?_)
  · replace h := h.1 c9
    exact (sX5_tells_47 F R h)
  replace h := h.2 c9
  refine g_bipush (v := (-2 : Int32)) F dX5_tells_44 (by decide) ?_
  exact g_iret F R rfl rfl dX5_tells_46 ⟨_, _, rfl, rfl, h⟩
set_option maxRecDepth 20000 in
theorem sX5_sheet_77 {z : kZ} {a : Nat → Nat} {E : va_W}  {Q : Int32 → kS → Prop} {l1 : Int32} {l2 : Int32} {l3 : Int32} {l4 : Int32} {σ : kS} (F : kF z cX5_sheet RX5 5 { frames := 2, cells := 0, slots := 0, locals := 85 }) (R : kR z (some .int) 0 0 (kPi (mW (zg z) a E) Q)) (h : wX5_sheet_77 Q l1 l2 l3 l4 σ) : kV z (mW (zg z) a E σ) 0 0 77 [(0, .ref (a 0)), (1, .int l1), (2, .int l2), (3, .int l3), (4, .int l4)] [] := by
  unfold wX5_sheet_77 at h
  refine h (fun σ l4 => kV z (mW (zg z) a E σ) 0 0 77 [(0, .ref (a 0)), (1, .int l1), (2, .int l2), (3, .int l3), (4, .int l4)] []) (fun σ l4 h => ?_)
  refine g_iload F dX5_sheet_77 4 rfl ?_
  refine g_iload_n F dX5_sheet_79 3 rfl ?_
  refine g_icmp_ge F dX5_sheet_80 (tgt := 106) (by decide) (fun c13 => ?_) (fun c13 => ?_)
  · replace h := h.1 c13
    refine g_iconst (v := (1 : Int32)) F dX5_sheet_106 (by decide) ?_
    exact g_iret F R rfl rfl dX5_sheet_107 ⟨_, _, rfl, rfl, h⟩
  replace h := h.2 c13
  refine g_iload_n F dX5_sheet_83 2 rfl ?_
  refine g_if_lt F dX5_sheet_84 (tgt := 106) (by decide) (fun c14 => ?_) (fun c14 => ?_)
  · replace h := h.1 c14
    refine g_iconst (v := (1 : Int32)) F dX5_sheet_106 (by decide) ?_
    exact g_iret F R rfl rfl dX5_sheet_107 ⟨_, _, rfl, rfl, h⟩
  replace h := h.2 c14
  refine g_aload_n F dX5_sheet_87 0 rfl ?_
  refine rgX5_X5_items F dX5_sheet_88 ?_
  refine g_bipush (v := (40 : Int32)) F dX5_sheet_91 (by decide) ?_
  refine g_iload_n F dX5_sheet_93 1 rfl ?_
  refine g_imul F dX5_sheet_94 ?_
  refine g_iload F dX5_sheet_95 4 rfl ?_
  refine g_iadd F dX5_sheet_97 ?_
  refine g_iconst (v := (0 : Int32)) F dX5_sheet_98 (by decide) ?_
  obtain ⟨hc, h⟩ := h
  refine g_iast (wf := mW (zg z) a E) F mA15 hc dX5_sheet_99 ?_
  refine g_name (wf := mW (zg z) a E) (fun s15 es15 => ?_)
  replace h := h s15 es15
  obtain ⟨x16, ex16⟩ : ∃ q : Int32, q = l4 + (1 : Int32) := ⟨_, rfl⟩
  replace h := h x16 ex16
  refine g_iinc (lv' := [(4, .int x16), (0, .ref (a 0)), (1, .int l1), (2, .int l2), (3, .int l3)]) (d := (1 : Int32)) F dX5_sheet_100 rfl 4 rfl (by decide) ex16.symm rfl ?_
  refine g_goto F dX5_sheet_103 (tgt := 77) (by decide) ?_
  exact (g_sub [1, 2, 3, 4, 0] rfl h)
set_option maxRecDepth 20000 in
theorem sX5_sheet_59 {z : kZ} {a : Nat → Nat} {E : va_W}  {Q : Int32 → kS → Prop} {l1 : Int32} {l2 : Int32} {l3 : Int32} {ks0 : Int32} {ks1 : Int32} {σ : kS} (F : kF z cX5_sheet RX5 5 { frames := 2, cells := 0, slots := 0, locals := 85 }) (R : kR z (some .int) 0 0 (kPi (mW (zg z) a E) Q)) (h : wX5_sheet_59 Q l1 l2 l3 ks0 ks1 σ) : kV z (mW (zg z) a E σ) 0 0 59 [(0, .ref (a 0)), (1, .int l1), (2, .int l2), (3, .int l3)] [.int ks0, .int ks1, .ref (a 12)] := by
  unfold wX5_sheet_59 at h
  obtain ⟨hc, h⟩ := h
  obtain ⟨hz, h⟩ := h
  refine g_zast (wf := mW (zg z) a E) F mA12 hc (kBoolV hz) dX5_sheet_59 ?_
  refine g_name (wf := mW (zg z) a E) (fun s10 es10 => ?_)
  replace h := h s10 es10
  refine g_aload_n F dX5_sheet_60 0 rfl ?_
  refine rgX5_X5_sorts F dX5_sheet_61 ?_
  refine g_iload_n F dX5_sheet_64 1 rfl ?_
  refine g_iload_n F dX5_sheet_65 2 rfl ?_
  obtain ⟨hc, h⟩ := h
  refine g_iast (wf := mW (zg z) a E) F mA13 hc dX5_sheet_66 ?_
  refine g_name (wf := mW (zg z) a E) (fun s11 es11 => ?_)
  replace h := h s11 es11
  refine g_aload_n F dX5_sheet_67 0 rfl ?_
  refine rgX5_X5_sheetSize F dX5_sheet_68 ?_
  refine g_iload_n F dX5_sheet_71 1 rfl ?_
  refine g_iload_n F dX5_sheet_72 3 rfl ?_
  obtain ⟨hc, h⟩ := h
  refine g_iast (wf := mW (zg z) a E) F mA14 hc dX5_sheet_73 ?_
  refine g_name (wf := mW (zg z) a E) (fun s12 es12 => ?_)
  replace h := h s12 es12
  refine g_iconst (v := (0 : Int32)) F dX5_sheet_74 (by decide) ?_
  refine g_istore (lv' := [(4, .int (0 : Int32)), (0, .ref (a 0)), (1, .int l1), (2, .int l2), (3, .int l3)]) F dX5_sheet_75 rfl rfl ?_
  exact g_sub [1, 2, 3, 4, 0] rfl (sX5_sheet_77 F R h)
set_option maxRecDepth 20000 in
theorem sX5_sheet_45 {z : kZ} {a : Nat → Nat} {E : va_W}  {Q : Int32 → kS → Prop} {l1 : Int32} {l2 : Int32} {l3 : Int32} {σ : kS} (F : kF z cX5_sheet RX5 5 { frames := 2, cells := 0, slots := 0, locals := 85 }) (R : kR z (some .int) 0 0 (kPi (mW (zg z) a E) Q)) (h : wX5_sheet_45 Q l1 l2 l3 σ) : kV z (mW (zg z) a E σ) 0 0 45 [(0, .ref (a 0)), (1, .int l1), (2, .int l2), (3, .int l3)] [] := by
  unfold wX5_sheet_45 at h
  refine g_aload_n F dX5_sheet_45 0 rfl ?_
  refine rgX5_X5_isThere F dX5_sheet_46 ?_
  refine g_iload_n F dX5_sheet_49 1 rfl ?_
  refine g_iload_n F dX5_sheet_50 2 rfl ?_
  refine g_if_lt F dX5_sheet_51 (tgt := 58) (by decide) (fun c9 => ?_) (fun c9 => ?_)
  · replace h := h.1 c9
    refine g_iconst (v := (0 : Int32)) F dX5_sheet_58 (by decide) ?_
    exact (sX5_sheet_59 F R h)
  replace h := h.2 c9
  refine g_iconst (v := (1 : Int32)) F dX5_sheet_54 (by decide) ?_
  refine g_goto F dX5_sheet_55 (tgt := 59) (by decide) ?_
  exact (sX5_sheet_59 F R h)
set_option maxRecDepth 20000 in
theorem sX5_sheet_34 {z : kZ} {a : Nat → Nat} {E : va_W}  {Q : Int32 → kS → Prop} {l1 : Int32} {l2 : Int32} {l3 : Int32} {σ : kS} (F : kF z cX5_sheet RX5 5 { frames := 2, cells := 0, slots := 0, locals := 85 }) (R : kR z (some .int) 0 0 (kPi (mW (zg z) a E) Q)) (h : wX5_sheet_34 Q l1 l2 l3 σ) : kV z (mW (zg z) a E σ) 0 0 34 [(0, .ref (a 0)), (1, .int l1), (2, .int l2), (3, .int l3)] [] := by
  unfold wX5_sheet_34 at h
  refine g_iload_n F dX5_sheet_34 2 rfl ?_
  refine g_if_lt F dX5_sheet_35 (tgt := 45) (by decide) (fun c7 => ?_) (fun c7 => ?_)
  · replace h := h.1 c7
    exact (sX5_sheet_45 F R h)
  replace h := h.2 c7
  refine g_iload_n F dX5_sheet_38 3 rfl ?_
  refine g_if_ge F dX5_sheet_39 (tgt := 45) (by decide) (fun c8 => ?_) (fun c8 => ?_)
  · replace h := h.1 c8
    exact (sX5_sheet_45 F R h)
  replace h := h.2 c8
  refine g_bipush (v := (-14 : Int32)) F dX5_sheet_42 (by decide) ?_
  exact g_iret F R rfl rfl dX5_sheet_44 ⟨_, _, rfl, rfl, h⟩
set_option maxRecDepth 20000 in
theorem ctX5_sheet (l : Launch) (g : kG) (A : Nat → Prop) (a : Nat → Nat) (E : va_W) {l1 : Int32} {l2 : Int32} {l3 : Int32} {σ : kS} {Q : Int32 → kS → Prop} (h : wX5_sheet l1 l2 l3 σ Q) : kCt l yX5_sheet cX5_sheet 5 (some .int) 2 85 0 0 g A [.ref (a 0), .int l1, .int l2, .int l3] (mW g a E σ) (kPi (mW g a E) Q) := by
  refine kCt.of (lv0 := [(0, .ref (a 0)), (1, .int l1), (2, .int l2), (3, .int l3)]) (by decide +kernel) (Nat.le_of_ble_eq_true rfl) rfl (fun z hl hg hA F R => ?_)
  subst hl hg hA
  have F : kF z cX5_sheet RX5 5 { frames := 2, cells := 0, slots := 0, locals := 85 } := F
  unfold wX5_sheet at h
  refine g_iload_n F dX5_sheet_0 1 rfl ?_
  refine rX5_X5_isSheet F dX5_sheet_1 rfl h (fun r1 h => ?_)
  refine g_if_eq F dX5_sheet_4 (tgt := 31) (by decide) (fun c2 => ?_) (fun c2 => ?_)
  · replace h := h.1 c2
    refine g_bipush (v := (-2 : Int32)) F dX5_sheet_31 (by decide) ?_
    exact g_iret F R rfl rfl dX5_sheet_33 ⟨_, _, rfl, rfl, h⟩
  replace h := h.2 c2
  refine g_iload_n F dX5_sheet_7 2 rfl ?_
  refine g_i2l F dX5_sheet_8 ?_
  refine g_ldc2 (v := (-1 : Int64)) F dX5_sheet_9 wq1323 ?_
  refine g_ldc2 (v := (2 : Int64)) F dX5_sheet_12 wq1324 ?_
  refine rX5_X5_in F dX5_sheet_15 rfl h (fun r3 h => ?_)
  refine g_if_eq F dX5_sheet_18 (tgt := 31) (by decide) (fun c4 => ?_) (fun c4 => ?_)
  · replace h := h.1 c4
    refine g_bipush (v := (-2 : Int32)) F dX5_sheet_31 (by decide) ?_
    exact g_iret F R rfl rfl dX5_sheet_33 ⟨_, _, rfl, rfl, h⟩
  replace h := h.2 c4
  refine g_iload_n F dX5_sheet_21 2 rfl ?_
  refine g_if_lt F dX5_sheet_22 (tgt := 34) (by decide) (fun c5 => ?_) (fun c5 => ?_)
  · replace h := h.1 c5
    exact (sX5_sheet_34 F R h)
  replace h := h.2 c5
  refine g_iload_n F dX5_sheet_25 3 rfl ?_
  refine g_bipush (v := (40 : Int32)) F dX5_sheet_26 (by decide) ?_
  refine g_icmp_le F dX5_sheet_28 (tgt := 34) (by decide) (fun c6 => ?_) (fun c6 => ?_)
  · replace h := h.1 c6
    exact (sX5_sheet_34 F R h)
  replace h := h.2 c6
  refine g_bipush (v := (-2 : Int32)) F dX5_sheet_31 (by decide) ?_
  exact g_iret F R rfl rfl dX5_sheet_33 ⟨_, _, rfl, rfl, h⟩
theorem plX5_sheet : kPlain yX5_sheet 3 = true := by decide +kernel
theorem rX5_X5_sheet {z : kZ} {cc : ByteArray} {nL : Nat} {rm : Room} {c n pc : Nat} {lv : List (Nat × Value)} {st : List Value} {a : Nat → Nat} {E : va_W} {σ : kS} {l1 : Int32} {l2 : Int32} {l3 : Int32} {Q : Int32 → kS → Prop} (F : kF z cc RX5 nL rm) (hd : decode cc pc = .ok (.invokevirtual 410, 3)) (hf : kFits rm 2 85 0 0 5 c n st = true) (h : wX5_sheet l1 l2 l3 σ Q) (k : ∀ (v : Int32) (σ' : kS), Q v σ' → kV z (mW (zg z) a E σ') c n (pc + 3) lv (.int v :: st)) : kV z (mW (zg z) a E σ) c n pc lv (.int l3 :: .int l2 :: .int l1 :: .ref (a 0) :: st) := by
  exact g_callV F (av := [.int l1, .int l2, .int l3]) (ctX5_sheet _ _ _ a E h) (ci := 5) (q0 := 0) rfl rfl rfl wq1319 wq1320 wq1321 wq114 wq1322 plX5_sheet hd hf (fun r ws' hq => by
    obtain ⟨v, σ', rfl, rfl, hq⟩ := hq
    exact k v σ' hq)
set_option maxRecDepth 20000 in
theorem sX5_film_39 {z : kZ} {a : Nat → Nat} {E : va_W}  {Q : Int32 → kS → Prop} {l1 : Int32} {l2 : Int32} {l3 : Int32} {σ : kS} (F : kF z cX5_film RX5 4 { frames := 46, cells := 0, slots := 0, locals := 1069 }) (R : kR z (some .int) 0 0 (kPi (mW (zg z) a E) Q)) (h : wX5_film_39 Q l1 l2 l3 σ) : kV z (mW (zg z) a E σ) 0 0 39 [(0, .ref (a 0)), (1, .int l1), (2, .int l2), (3, .int l3)] [] := by
  unfold wX5_film_39 at h
  refine h (fun σ l3 => kV z (mW (zg z) a E σ) 0 0 39 [(0, .ref (a 0)), (1, .int l1), (2, .int l2), (3, .int l3)] []) (fun σ l3 h => ?_)
  refine g_iload_n F dX5_film_39 3 rfl ?_
  refine g_iload_n F dX5_film_40 2 rfl ?_
  refine g_icmp_ge F dX5_film_41 (tgt := 67) (by decide) (fun c8 => ?_) (fun c8 => ?_)
  · replace h := h.1 c8
    refine g_iload_n F dX5_film_67 2 rfl ?_
    exact g_iret F R rfl rfl dX5_film_68 ⟨_, _, rfl, rfl, h⟩
  replace h := h.2 c8
  refine g_aload_n F dX5_film_44 0 rfl ?_
  refine rgX5_X5_items F dX5_film_45 ?_
  refine g_bipush (v := (40 : Int32)) F dX5_film_48 (by decide) ?_
  refine g_iload_n F dX5_film_50 1 rfl ?_
  refine g_imul F dX5_film_51 ?_
  refine g_iload_n F dX5_film_52 3 rfl ?_
  refine g_iadd F dX5_film_53 ?_
  refine g_aload_n F dX5_film_54 0 rfl ?_
  refine rgX5_X5_dryRow F dX5_film_55 ?_
  refine g_iload_n F dX5_film_58 3 rfl ?_
  obtain ⟨hc, h⟩ := h
  refine g_iald (wf := mW (zg z) a E) F mA9 hc dX5_film_59 ?_
  obtain ⟨hc, h⟩ := h
  refine g_iast (wf := mW (zg z) a E) F mA15 hc dX5_film_60 ?_
  refine g_name (wf := mW (zg z) a E) (fun s9 es9 => ?_)
  replace h := h s9 es9
  obtain ⟨x10, ex10⟩ : ∃ q : Int32, q = l3 + (1 : Int32) := ⟨_, rfl⟩
  replace h := h x10 ex10
  refine g_iinc (lv' := [(3, .int x10), (0, .ref (a 0)), (1, .int l1), (2, .int l2)]) (d := (1 : Int32)) F dX5_film_61 rfl 3 rfl (by decide) ex10.symm rfl ?_
  refine g_goto F dX5_film_64 (tgt := 39) (by decide) ?_
  exact (g_sub [1, 2, 3, 0] rfl h)
set_option maxRecDepth 20000 in
theorem ctX5_film (l : Launch) (g : kG) (A : Nat → Prop) (a : Nat → Nat) (E : va_W) {l1 : Int32} {l2 : Int32} {σ : kS} {Q : Int32 → kS → Prop} (h : wX5_film l1 l2 σ Q) : kCt l yX5_film cX5_film 4 (some .int) 46 1069 0 0 g A [.ref (a 0), .int l1, .int l2] (mW g a E σ) (kPi (mW g a E) Q) := by
  refine kCt.of (lv0 := [(0, .ref (a 0)), (1, .int l1), (2, .int l2)]) (by decide +kernel) (Nat.le_of_ble_eq_true rfl) rfl (fun z hl hg hA F R => ?_)
  subst hl hg hA
  have F : kF z cX5_film RX5 4 { frames := 46, cells := 0, slots := 0, locals := 1069 } := F
  unfold wX5_film at h
  refine g_iload_n F dX5_film_0 1 rfl ?_
  refine rX5_X5_isSheet F dX5_film_1 rfl h (fun r1 h => ?_)
  refine g_if_eq F dX5_film_4 (tgt := 19) (by decide) (fun c2 => ?_) (fun c2 => ?_)
  · replace h := h.1 c2
    refine g_bipush (v := (-2 : Int32)) F dX5_film_19 (by decide) ?_
    exact g_iret F R rfl rfl dX5_film_21 ⟨_, _, rfl, rfl, h⟩
  replace h := h.2 c2
  refine g_iload_n F dX5_film_7 2 rfl ?_
  refine g_i2l F dX5_film_8 ?_
  refine g_lconst (v := (0 : Int64)) F dX5_film_9 (by decide) ?_
  refine g_ldc2 (v := (30 : Int64)) F dX5_film_10 wq1259 ?_
  refine rX5_X5_in F dX5_film_13 rfl h (fun r3 h => ?_)
  refine g_if_ne F dX5_film_16 (tgt := 22) (by decide) (fun c4 => ?_) (fun c4 => ?_)
  · replace h := h.1 c4
    refine g_aload_n F dX5_film_22 0 rfl ?_
    refine g_iload_n F dX5_film_23 2 rfl ?_
    refine g_iconst (v := (0 : Int32)) F dX5_film_24 (by decide) ?_
    refine g_iconst (v := (0 : Int32)) F dX5_film_25 (by decide) ?_
    refine rX5_X5_runs F dX5_film_26 rfl h (fun s5 h => ?_)
    refine g_aload_n F dX5_film_29 0 rfl ?_
    refine g_iload_n F dX5_film_30 1 rfl ?_
    refine g_iconst (v := (1 : Int32)) F dX5_film_31 (by decide) ?_
    refine g_iload_n F dX5_film_32 2 rfl ?_
    refine rX5_X5_sheet F dX5_film_33 rfl h (fun r7 s6 h => ?_)
    refine g_pop F dX5_film_36 rfl ?_
    refine g_iconst (v := (0 : Int32)) F dX5_film_37 (by decide) ?_
    refine g_istore_n (lv' := [(3, .int (0 : Int32)), (0, .ref (a 0)), (1, .int l1), (2, .int l2)]) F dX5_film_38 rfl rfl ?_
    exact g_sub [1, 2, 3, 0] rfl (sX5_film_39 F R h)
  replace h := h.2 c4
  refine g_bipush (v := (-2 : Int32)) F dX5_film_19 (by decide) ?_
  exact g_iret F R rfl rfl dX5_film_21 ⟨_, _, rfl, rfl, h⟩
set_option maxRecDepth 20000 in
theorem ctX5_dryBy (l : Launch) (g : kG) (A : Nat → Prop) (a : Nat → Nat) (E : va_W) {l1 : Int32} {l2 : Int32} {σ : kS} {Q : Int32 → kS → Prop} (h : wX5_dryBy l1 l2 σ Q) : kCt l yX5_dryBy cX5_dryBy 3 (some .int) 46 1069 0 0 g A [.ref (a 0), .int l1, .int l2] (mW g a E σ) (kPi (mW g a E) Q) := by
  refine kCt.of (lv0 := [(0, .ref (a 0)), (1, .int l1), (2, .int l2)]) (by decide +kernel) (Nat.le_of_ble_eq_true rfl) rfl (fun z hl hg hA F R => ?_)
  subst hl hg hA
  have F : kF z cX5_dryBy RX5 3 { frames := 46, cells := 0, slots := 0, locals := 1069 } := F
  unfold wX5_dryBy at h
  refine g_aload_n F dX5_dryBy_0 0 rfl ?_
  refine g_iload_n F dX5_dryBy_1 2 rfl ?_
  refine g_iconst (v := (1 : Int32)) F dX5_dryBy_2 (by decide) ?_
  refine g_iload_n F dX5_dryBy_3 1 rfl ?_
  refine rX5_X5_runs F dX5_dryBy_4 rfl h (fun s1 h => ?_)
  refine g_aload_n F dX5_dryBy_7 0 rfl ?_
  refine rgX5_X5_dryThen F dX5_dryBy_8 ?_
  refine rX5_X5_bitsOf F dX5_dryBy_11 rfl h (fun r2 h => ?_)
  exact g_iret F R rfl rfl dX5_dryBy_14 ⟨_, _, rfl, rfl, h⟩
theorem plX5_dryBy : kPlain yX5_dryBy 2 = true := by decide +kernel
theorem rX5_X5_dryBy {z : kZ} {cc : ByteArray} {nL : Nat} {rm : Room} {c n pc : Nat} {lv : List (Nat × Value)} {st : List Value} {a : Nat → Nat} {E : va_W} {σ : kS} {l1 : Int32} {l2 : Int32} {Q : Int32 → kS → Prop} (F : kF z cc RX5 nL rm) (hd : decode cc pc = .ok (.invokevirtual 413, 3)) (hf : kFits rm 46 1069 0 0 3 c n st = true) (h : wX5_dryBy l1 l2 σ Q) (k : ∀ (v : Int32) (σ' : kS), Q v σ' → kV z (mW (zg z) a E σ') c n (pc + 3) lv (.int v :: st)) : kV z (mW (zg z) a E σ) c n pc lv (.int l2 :: .int l1 :: .ref (a 0) :: st) := by
  exact g_callV F (av := [.int l1, .int l2]) (ctX5_dryBy _ _ _ a E h) (ci := 5) (q0 := 0) rfl rfl rfl wq1329 wq1331 wq107 wq114 wq1332 plX5_dryBy hd hf (fun r ws' hq => by
    obtain ⟨v, σ', rfl, rfl, hq⟩ := hq
    exact k v σ' hq)
set_option maxRecDepth 20000 in
theorem ctX5_drawn (l : Launch) (g : kG) (A : Nat → Prop) (a : Nat → Nat) (E : va_W) {l1 : Int32} {l2 : Int32} {σ : kS} {Q : Int32 → kS → Prop} (h : wX5_drawn l1 l2 σ Q) : kCt l yX5_drawn cX5_drawn 3 (some .int) 47 1091 0 0 g A [.ref (a 0), .int l1, .int l2] (mW g a E σ) (kPi (mW g a E) Q) := by
  refine kCt.of (lv0 := [(0, .ref (a 0)), (1, .int l1), (2, .int l2)]) (by decide +kernel) (Nat.le_of_ble_eq_true rfl) rfl (fun z hl hg hA F R => ?_)
  subst hl hg hA
  have F : kF z cX5_drawn RX5 3 { frames := 47, cells := 0, slots := 0, locals := 1091 } := F
  unfold wX5_drawn at h
  refine g_iload_n F dX5_drawn_0 2 rfl ?_
  refine g_i2l F dX5_drawn_1 ?_
  refine g_lconst (v := (0 : Int64)) F dX5_drawn_2 (by decide) ?_
  refine g_ldc2 (v := (30 : Int64)) F dX5_drawn_3 wq1259 ?_
  refine rX5_X5_in F dX5_drawn_6 rfl h (fun r1 h => ?_)
  refine g_if_eq F dX5_drawn_9 (tgt := 21) (by decide) (fun c2 => ?_) (fun c2 => ?_)
  · replace h := h.1 c2
    refine g_bipush (v := (-2 : Int32)) F dX5_drawn_21 (by decide) ?_
    exact g_iret F R rfl rfl dX5_drawn_23 ⟨_, _, rfl, rfl, h⟩
  replace h := h.2 c2
  refine g_aload_n F dX5_drawn_12 0 rfl ?_
  refine g_iload_n F dX5_drawn_13 1 rfl ?_
  refine g_iload_n F dX5_drawn_14 2 rfl ?_
  refine rX5_X5_dryBy F dX5_drawn_15 rfl h (fun r4 s3 h => ?_)
  refine g_goto F dX5_drawn_18 (tgt := 23) (by decide) ?_
  exact g_iret F R rfl rfl dX5_drawn_23 ⟨_, _, rfl, rfl, h⟩
set_option maxRecDepth 20000 in
theorem sX5_chance_103 {z : kZ} {a : Nat → Nat} {E : va_W}  {Q : Int64 → kS → Prop} {l2 : Int32} {l4 : Int32} {l5 : Int64} {l7 : Int64} {l9 : Int64} {σ : kS} (F : kF z cX5_chance RX5 13 { frames := 47, cells := 0, slots := 0, locals := 1091 }) (R : kR z (some .long) 0 0 (kPl (mW (zg z) a E) Q)) (h : wX5_chance_103 Q l2 l4 l5 l7 l9 σ) : kV z (mW (zg z) a E σ) 0 0 103 [(2, .int l2), (4, .int l4), (5, .long l5), (7, .long l7), (9, .long l9)] [] := by
  unfold wX5_chance_103 at h
  refine h (fun l7 l9 => kV z (mW (zg z) a E σ) 0 0 103 [(2, .int l2), (4, .int l4), (5, .long l5), (7, .long l7), (9, .long l9)] []) (fun l7 l9 h => ?_)
  refine g_lload F dX5_chance_103 4 rfl ?_
  refine g_lconst (v := (0 : Int64)) F dX5_chance_105 (by decide) ?_
  refine g_lcmp F dX5_chance_106 ?_
  refine g_if_eq F dX5_chance_107 (tgt := 128) (by decide) (fun c17 => ?_) (fun c17 => ?_)
  · replace h := h.1 c17
    refine g_iload F dX5_chance_128 1 rfl ?_
    refine g_if_ne F dX5_chance_130 (tgt := 141) (by decide) (fun c18 => ?_) (fun c18 => ?_)
    · replace h := h.1 c18
      refine g_iload_n F dX5_chance_141 0 rfl ?_
      refine g_i2l F dX5_chance_142 ?_
      refine g_lload F dX5_chance_143 3 rfl ?_
      obtain ⟨hc, h⟩ := h
      refine g_ldiv F dX5_chance_145 hc ?_
      exact g_lret F R rfl rfl dX5_chance_146 ⟨_, _, rfl, rfl, h⟩
    replace h := h.2 c18
    refine g_lload F dX5_chance_133 2 rfl ?_
    refine g_lload F dX5_chance_135 3 rfl ?_
    obtain ⟨hc, h⟩ := h
    refine g_ldiv F dX5_chance_137 hc ?_
    refine g_goto F dX5_chance_138 (tgt := 146) (by decide) ?_
    exact g_lret F R rfl rfl dX5_chance_146 ⟨_, _, rfl, rfl, h⟩
  replace h := h.2 c17
  refine g_lload F dX5_chance_110 3 rfl ?_
  refine g_lload F dX5_chance_112 4 rfl ?_
  obtain ⟨hc, h⟩ := h
  refine g_lrem F dX5_chance_114 hc ?_
  refine g_topl (fun x19 ex19 => ?_)
  replace h := h x19 ex19
  refine g_lstore (lv' := [(11, .long x19), (2, .int l2), (4, .int l4), (5, .long l5), (7, .long l7), (9, .long l9)]) F dX5_chance_115 rfl rfl ?_
  refine g_lload F dX5_chance_117 5 rfl ?_
  refine g_lstore (lv' := [(7, .long l9), (11, .long x19), (2, .int l2), (4, .int l4), (5, .long l5), (9, .long l9)]) F dX5_chance_119 rfl rfl ?_
  refine g_lload F dX5_chance_121 1 rfl ?_
  refine g_lstore (lv' := [(9, .long x19), (7, .long l9), (11, .long x19), (2, .int l2), (4, .int l4), (5, .long l5)]) F dX5_chance_123 rfl rfl ?_
  refine g_goto F dX5_chance_125 (tgt := 103) (by decide) ?_
  exact (g_sub [3, 4, 5, 1, 0] rfl h)
set_option maxRecDepth 20000 in
theorem sX5_chance_54 {z : kZ} {a : Nat → Nat} {E : va_W}  {Q : Int64 → kS → Prop} {l1 : Int32} {l2 : Int32} {l3 : Int32} {l4 : Int32} {l5 : Int64} {l7 : Int32} {σ : kS} (F : kF z cX5_chance RX5 13 { frames := 47, cells := 0, slots := 0, locals := 1091 }) (R : kR z (some .long) 0 0 (kPl (mW (zg z) a E) Q)) (h : wX5_chance_54 Q l1 l2 l3 l4 l5 l7 σ) : kV z (mW (zg z) a E σ) 0 0 54 [(0, .ref (a 0)), (1, .int l1), (2, .int l2), (3, .int l3), (4, .int l4), (5, .long l5), (7, .int l7)] [] := by
  unfold wX5_chance_54 at h
  refine h (fun σ l5 l7 => kV z (mW (zg z) a E σ) 0 0 54 [(0, .ref (a 0)), (1, .int l1), (2, .int l2), (3, .int l3), (4, .int l4), (5, .long l5), (7, .int l7)] []) (fun σ l5 l7 h => ?_)
  refine g_iload F dX5_chance_54 6 rfl ?_
  refine g_iload_n F dX5_chance_56 2 rfl ?_
  refine g_icmp_ge F dX5_chance_57 (tgt := 95) (by decide) (fun c8 => ?_) (fun c8 => ?_)
  · replace h := h.1 c8
    refine g_lload F dX5_chance_95 5 rfl ?_
    refine g_lstore (lv' := [(7, .long l5), (0, .ref (a 0)), (1, .int l1), (2, .int l2), (3, .int l3), (4, .int l4), (5, .long l5)]) F dX5_chance_97 rfl rfl ?_
    refine g_iload_n F dX5_chance_99 3 rfl ?_
    refine g_i2l F dX5_chance_100 ?_
    refine g_topl (fun x9 ex9 => ?_)
    replace h := h x9 ex9
    refine g_lstore (lv' := [(9, .long x9), (7, .long l5), (0, .ref (a 0)), (1, .int l1), (2, .int l2), (3, .int l3), (4, .int l4), (5, .long l5)]) F dX5_chance_101 rfl rfl ?_
    exact g_sub [4, 6, 7, 1, 0] rfl (sX5_chance_103 F R h)
  replace h := h.2 c8
  refine g_lload F dX5_chance_60 5 rfl ?_
  refine g_aload_n F dX5_chance_62 0 rfl ?_
  refine g_iload_n F dX5_chance_63 1 rfl ?_
  refine g_iload F dX5_chance_64 6 rfl ?_
  refine g_iadd F dX5_chance_66 ?_
  refine g_iload_n F dX5_chance_67 3 rfl ?_
  refine g_bipush (v := (100 : Int32)) F dX5_chance_68 (by decide) ?_
  refine g_idiv F dX5_chance_70 (by decide) ?_
  refine rX5_X5_dryBy F dX5_chance_71 rfl h (fun r11 s10 h => ?_)
  refine g_iload_n F dX5_chance_74 3 rfl ?_
  refine g_bipush (v := (100 : Int32)) F dX5_chance_75 (by decide) ?_
  refine g_irem F dX5_chance_77 (by decide) ?_
  refine g_icmp_lt F dX5_chance_78 (tgt := 85) (by decide) (fun c12 => ?_) (fun c12 => ?_)
  · replace h := h.1 c12
    refine g_lconst (v := (0 : Int64)) F dX5_chance_85 (by decide) ?_
    refine g_ladd F dX5_chance_86 ?_
    refine g_topl (fun x13 ex13 => ?_)
    replace h := h x13 ex13
    refine g_lstore (lv' := [(5, .long x13), (0, .ref (a 0)), (1, .int l1), (2, .int l2), (3, .int l3), (4, .int l4), (7, .int l7)]) F dX5_chance_87 rfl rfl ?_
    obtain ⟨x14, ex14⟩ : ∃ q : Int32, q = l7 + (1 : Int32) := ⟨_, rfl⟩
    replace h := h x14 ex14
    refine g_iinc (lv' := [(7, .int x14), (5, .long x13), (0, .ref (a 0)), (1, .int l1), (2, .int l2), (3, .int l3), (4, .int l4)]) (d := (1 : Int32)) F dX5_chance_89 rfl 6 rfl (by decide) ex14.symm rfl ?_
    refine g_goto F dX5_chance_92 (tgt := 54) (by decide) ?_
    exact (g_sub [2, 3, 4, 5, 6, 1, 0] rfl h)
  replace h := h.2 c12
  refine g_lconst (v := (1 : Int64)) F dX5_chance_81 (by decide) ?_
  refine g_goto F dX5_chance_82 (tgt := 86) (by decide) ?_
  refine g_ladd F dX5_chance_86 ?_
  refine g_topl (fun x15 ex15 => ?_)
  replace h := h x15 ex15
  refine g_lstore (lv' := [(5, .long x15), (0, .ref (a 0)), (1, .int l1), (2, .int l2), (3, .int l3), (4, .int l4), (7, .int l7)]) F dX5_chance_87 rfl rfl ?_
  obtain ⟨x16, ex16⟩ : ∃ q : Int32, q = l7 + (1 : Int32) := ⟨_, rfl⟩
  replace h := h x16 ex16
  refine g_iinc (lv' := [(7, .int x16), (5, .long x15), (0, .ref (a 0)), (1, .int l1), (2, .int l2), (3, .int l3), (4, .int l4)]) (d := (1 : Int32)) F dX5_chance_89 rfl 6 rfl (by decide) ex16.symm rfl ?_
  refine g_goto F dX5_chance_92 (tgt := 54) (by decide) ?_
  exact (g_sub [2, 3, 4, 5, 6, 1, 0] rfl h)
set_option maxRecDepth 20000 in
theorem ctX5_chance (l : Launch) (g : kG) (A : Nat → Prop) (a : Nat → Nat) (E : va_W) {l1 : Int32} {l2 : Int32} {l3 : Int32} {l4 : Int32} {σ : kS} {Q : Int64 → kS → Prop} (h : wX5_chance l1 l2 l3 l4 σ Q) : kCt l yX5_chance cX5_chance 13 (some .long) 47 1091 0 0 g A [.ref (a 0), .int l1, .int l2, .int l3, .int l4] (mW g a E σ) (kPl (mW g a E) Q) := by
  refine kCt.of (lv0 := [(0, .ref (a 0)), (1, .int l1), (2, .int l2), (3, .int l3), (4, .int l4)]) (by decide +kernel) (Nat.le_of_ble_eq_true rfl) rfl (fun z hl hg hA F R => ?_)
  subst hl hg hA
  have F : kF z cX5_chance RX5 13 { frames := 47, cells := 0, slots := 0, locals := 1091 } := F
  unfold wX5_chance at h
  refine g_iload_n F dX5_chance_0 2 rfl ?_
  refine g_i2l F dX5_chance_1 ?_
  refine g_lconst (v := (1 : Int64)) F dX5_chance_2 (by decide) ?_
  refine g_ldc2 (v := (20 : Int64)) F dX5_chance_3 wq1337 ?_
  refine rX5_X5_in F dX5_chance_6 rfl h (fun r1 h => ?_)
  refine g_if_eq F dX5_chance_9 (tgt := 44) (by decide) (fun c2 => ?_) (fun c2 => ?_)
  · replace h := h.1 c2
    refine g_ldc2 (v := (-4611686018427387904 : Int64)) F dX5_chance_44 wq1339 ?_
    exact g_lret F R rfl rfl dX5_chance_47 ⟨_, _, rfl, rfl, h⟩
  replace h := h.2 c2
  refine g_iload_n F dX5_chance_12 3 rfl ?_
  refine g_i2l F dX5_chance_13 ?_
  refine g_lconst (v := (0 : Int64)) F dX5_chance_14 (by decide) ?_
  refine g_ldc2 (v := (3012 : Int64)) F dX5_chance_15 wq1338 ?_
  refine rX5_X5_in F dX5_chance_18 rfl h (fun r3 h => ?_)
  refine g_if_eq F dX5_chance_21 (tgt := 44) (by decide) (fun c4 => ?_) (fun c4 => ?_)
  · replace h := h.1 c4
    refine g_ldc2 (v := (-4611686018427387904 : Int64)) F dX5_chance_44 wq1339 ?_
    exact g_lret F R rfl rfl dX5_chance_47 ⟨_, _, rfl, rfl, h⟩
  replace h := h.2 c4
  refine g_iload_n F dX5_chance_24 3 rfl ?_
  refine g_bipush (v := (100 : Int32)) F dX5_chance_25 (by decide) ?_
  refine g_irem F dX5_chance_27 (by decide) ?_
  refine g_bipush (v := (12 : Int32)) F dX5_chance_28 (by decide) ?_
  refine g_icmp_gt F dX5_chance_30 (tgt := 44) (by decide) (fun c5 => ?_) (fun c5 => ?_)
  · replace h := h.1 c5
    refine g_ldc2 (v := (-4611686018427387904 : Int64)) F dX5_chance_44 wq1339 ?_
    exact g_lret F R rfl rfl dX5_chance_47 ⟨_, _, rfl, rfl, h⟩
  replace h := h.2 c5
  refine g_iload F dX5_chance_33 4 rfl ?_
  refine g_i2l F dX5_chance_35 ?_
  refine g_lconst (v := (0 : Int64)) F dX5_chance_36 (by decide) ?_
  refine g_lconst (v := (1 : Int64)) F dX5_chance_37 (by decide) ?_
  refine rX5_X5_in F dX5_chance_38 rfl h (fun r6 h => ?_)
  refine g_if_ne F dX5_chance_41 (tgt := 48) (by decide) (fun c7 => ?_) (fun c7 => ?_)
  · replace h := h.1 c7
    refine g_lconst (v := (0 : Int64)) F dX5_chance_48 (by decide) ?_
    refine g_lstore (lv' := [(5, .long (0 : Int64)), (0, .ref (a 0)), (1, .int l1), (2, .int l2), (3, .int l3), (4, .int l4)]) F dX5_chance_49 rfl rfl ?_
    refine g_iconst (v := (0 : Int32)) F dX5_chance_51 (by decide) ?_
    refine g_istore (lv' := [(7, .int (0 : Int32)), (5, .long (0 : Int64)), (0, .ref (a 0)), (1, .int l1), (2, .int l2), (3, .int l3), (4, .int l4)]) F dX5_chance_52 rfl rfl ?_
    exact g_sub [2, 3, 4, 5, 6, 1, 0] rfl (sX5_chance_54 F R h)
  replace h := h.2 c7
  refine g_ldc2 (v := (-4611686018427387904 : Int64)) F dX5_chance_44 wq1339 ?_
  exact g_lret F R rfl rfl dX5_chance_47 ⟨_, _, rfl, rfl, h⟩
set_option maxRecDepth 20000 in
theorem sX5_image_28 {z : kZ} {a : Nat → Nat} {E : va_W}  {Q : Int32 → kS → Prop} {l1 : Int32} {σ : kS} (F : kF z cX5_image RX5 2 { frames := 0, cells := 0, slots := 0, locals := 40 }) (R : kR z (some .int) 0 0 (kPi (mW (zg z) a E) Q)) (h : wX5_image_28 Q l1 σ) : kV z (mW (zg z) a E σ) 0 0 28 [(0, .ref (a 0)), (1, .int l1)] [] := by
  unfold wX5_image_28 at h
  refine h (fun σ l1 => kV z (mW (zg z) a E σ) 0 0 28 [(0, .ref (a 0)), (1, .int l1)] []) (fun σ l1 h => ?_)
  refine g_iload_n F dX5_image_28 1 rfl ?_
  refine g_bipush (v := (18 : Int32)) F dX5_image_29 (by decide) ?_
  refine g_icmp_ge F dX5_image_31 (tgt := 52) (by decide) (fun c4 => ?_) (fun c4 => ?_)
  · replace h := h.1 c4
    refine g_aload_n F dX5_image_52 0 rfl ?_
    refine g_aload_n F dX5_image_53 0 rfl ?_
    refine rgX5_X5_many F dX5_image_54 ?_
    refine rpX5_X5_manyKept F dX5_image_57 ?_
    refine g_name (wf := mW (zg z) a E) (fun s5 es5 => ?_)
    replace h := h s5 es5
    refine g_aload_n F dX5_image_60 0 rfl ?_
    refine g_aload_n F dX5_image_61 0 rfl ?_
    refine rgX5_X5_riverNow F dX5_image_62 ?_
    refine rpX5_X5_riverKept F dX5_image_65 ?_
    refine g_name (wf := mW (zg z) a E) (fun s6 es6 => ?_)
    replace h := h s6 es6
    refine g_aload_n F dX5_image_68 0 rfl ?_
    refine g_aload_n F dX5_image_69 0 rfl ?_
    refine rgX5_X5_yearNow F dX5_image_70 ?_
    refine rpX5_X5_yearKept F dX5_image_73 ?_
    refine g_name (wf := mW (zg z) a E) (fun s7 es7 => ?_)
    replace h := h s7 es7
    refine g_aload_n F dX5_image_76 0 rfl ?_
    refine g_aload_n F dX5_image_77 0 rfl ?_
    refine rgX5_X5_paid F dX5_image_78 ?_
    refine rpX5_X5_paidKept F dX5_image_81 ?_
    refine g_name (wf := mW (zg z) a E) (fun s8 es8 => ?_)
    replace h := h s8 es8
    refine g_aload_n F dX5_image_84 0 rfl ?_
    refine g_aload_n F dX5_image_85 0 rfl ?_
    refine rgX5_X5_rule F dX5_image_86 ?_
    refine rpX5_X5_ruleKept F dX5_image_89 ?_
    refine g_name (wf := mW (zg z) a E) (fun s9 es9 => ?_)
    replace h := h s9 es9
    refine g_aload_n F dX5_image_92 0 rfl ?_
    refine rgX5_X5_many F dX5_image_93 ?_
    exact g_iret F R rfl rfl dX5_image_96 ⟨_, _, rfl, rfl, h⟩
  replace h := h.2 c4
  refine g_aload_n F dX5_image_34 0 rfl ?_
  refine rgX5_X5_rowsKept F dX5_image_35 ?_
  refine g_iload_n F dX5_image_38 1 rfl ?_
  refine g_aload_n F dX5_image_39 0 rfl ?_
  refine rgX5_X5_rows F dX5_image_40 ?_
  refine g_iload_n F dX5_image_43 1 rfl ?_
  obtain ⟨hc, h⟩ := h
  refine g_iald (wf := mW (zg z) a E) F mA6 hc dX5_image_44 ?_
  obtain ⟨hc, h⟩ := h
  refine g_iast (wf := mW (zg z) a E) F mA11 hc dX5_image_45 ?_
  refine g_name (wf := mW (zg z) a E) (fun s10 es10 => ?_)
  replace h := h s10 es10
  obtain ⟨x11, ex11⟩ : ∃ q : Int32, q = l1 + (1 : Int32) := ⟨_, rfl⟩
  replace h := h x11 ex11
  refine g_iinc (lv' := [(1, .int x11), (0, .ref (a 0))]) (d := (1 : Int32)) F dX5_image_46 rfl 1 rfl (by decide) ex11.symm rfl ?_
  refine g_goto F dX5_image_49 (tgt := 28) (by decide) ?_
  exact (g_sub [1, 0] rfl h)
set_option maxRecDepth 20000 in
theorem sX5_image_2 {z : kZ} {a : Nat → Nat} {E : va_W}  {Q : Int32 → kS → Prop} {l1 : Int32} {σ : kS} (F : kF z cX5_image RX5 2 { frames := 0, cells := 0, slots := 0, locals := 40 }) (R : kR z (some .int) 0 0 (kPi (mW (zg z) a E) Q)) (h : wX5_image_2 Q l1 σ) : kV z (mW (zg z) a E σ) 0 0 2 [(0, .ref (a 0)), (1, .int l1)] [] := by
  unfold wX5_image_2 at h
  refine h (fun σ l1 => kV z (mW (zg z) a E σ) 0 0 2 [(0, .ref (a 0)), (1, .int l1)] []) (fun σ l1 h => ?_)
  refine g_iload_n F dX5_image_2 1 rfl ?_
  refine g_bipush (v := (36 : Int32)) F dX5_image_3 (by decide) ?_
  refine g_icmp_ge F dX5_image_5 (tgt := 26) (by decide) (fun c1 => ?_) (fun c1 => ?_)
  · replace h := h.1 c1
    refine g_iconst (v := (0 : Int32)) F dX5_image_26 (by decide) ?_
    refine g_istore_n (lv' := [(1, .int (0 : Int32)), (0, .ref (a 0))]) F dX5_image_27 rfl rfl ?_
    exact g_sub [1, 0] rfl (sX5_image_28 F R h)
  replace h := h.2 c1
  refine g_aload_n F dX5_image_8 0 rfl ?_
  refine rgX5_X5_fenKept F dX5_image_9 ?_
  refine g_iload_n F dX5_image_12 1 rfl ?_
  refine g_aload_n F dX5_image_13 0 rfl ?_
  refine rgX5_X5_fen F dX5_image_14 ?_
  refine g_iload_n F dX5_image_17 1 rfl ?_
  obtain ⟨hc, h⟩ := h
  refine g_iald (wf := mW (zg z) a E) F mA4 hc dX5_image_18 ?_
  obtain ⟨hc, h⟩ := h
  refine g_iast (wf := mW (zg z) a E) F mA10 hc dX5_image_19 ?_
  refine g_name (wf := mW (zg z) a E) (fun s2 es2 => ?_)
  replace h := h s2 es2
  obtain ⟨x3, ex3⟩ : ∃ q : Int32, q = l1 + (1 : Int32) := ⟨_, rfl⟩
  replace h := h x3 ex3
  refine g_iinc (lv' := [(1, .int x3), (0, .ref (a 0))]) (d := (1 : Int32)) F dX5_image_20 rfl 1 rfl (by decide) ex3.symm rfl ?_
  refine g_goto F dX5_image_23 (tgt := 2) (by decide) ?_
  exact (g_sub [1, 0] rfl h)
set_option maxRecDepth 20000 in
theorem ctX5_image (l : Launch) (g : kG) (A : Nat → Prop) (a : Nat → Nat) (E : va_W) {σ : kS} {Q : Int32 → kS → Prop} (h : wX5_image σ Q) : kCt l yX5_image cX5_image 2 (some .int) 0 40 0 0 g A [.ref (a 0)] (mW g a E σ) (kPi (mW g a E) Q) := by
  refine kCt.of (lv0 := [(0, .ref (a 0))]) (by decide +kernel) (Nat.le_of_ble_eq_true rfl) rfl (fun z hl hg hA F R => ?_)
  subst hl hg hA
  have F : kF z cX5_image RX5 2 { frames := 0, cells := 0, slots := 0, locals := 40 } := F
  unfold wX5_image at h
  refine g_iconst (v := (0 : Int32)) F dX5_image_0 (by decide) ?_
  refine g_istore_n (lv' := [(1, .int (0 : Int32)), (0, .ref (a 0))]) F dX5_image_1 rfl rfl ?_
  exact g_sub [1, 0] rfl (sX5_image_2 F R h)
set_option maxRecDepth 20000 in
theorem sX5_back_39 {z : kZ} {a : Nat → Nat} {E : va_W}  {Q : Int32 → kS → Prop} {l1 : Int32} {σ : kS} (F : kF z cX5_back RX5 2 { frames := 0, cells := 0, slots := 0, locals := 40 }) (R : kR z (some .int) 0 0 (kPi (mW (zg z) a E) Q)) (h : wX5_back_39 Q l1 σ) : kV z (mW (zg z) a E σ) 0 0 39 [(0, .ref (a 0)), (1, .int l1)] [] := by
  unfold wX5_back_39 at h
  refine h (fun σ l1 => kV z (mW (zg z) a E σ) 0 0 39 [(0, .ref (a 0)), (1, .int l1)] []) (fun σ l1 h => ?_)
  refine g_iload_n F dX5_back_39 1 rfl ?_
  refine g_bipush (v := (18 : Int32)) F dX5_back_40 (by decide) ?_
  refine g_icmp_ge F dX5_back_42 (tgt := 63) (by decide) (fun c5 => ?_) (fun c5 => ?_)
  · replace h := h.1 c5
    refine g_aload_n F dX5_back_63 0 rfl ?_
    refine g_aload_n F dX5_back_64 0 rfl ?_
    refine rgX5_X5_manyKept F dX5_back_65 ?_
    refine rpX5_X5_many F dX5_back_68 ?_
    refine g_name (wf := mW (zg z) a E) (fun s6 es6 => ?_)
    replace h := h s6 es6
    refine g_aload_n F dX5_back_71 0 rfl ?_
    refine g_aload_n F dX5_back_72 0 rfl ?_
    refine rgX5_X5_riverKept F dX5_back_73 ?_
    refine rpX5_X5_riverNow F dX5_back_76 ?_
    refine g_name (wf := mW (zg z) a E) (fun s7 es7 => ?_)
    replace h := h s7 es7
    refine g_aload_n F dX5_back_79 0 rfl ?_
    refine g_aload_n F dX5_back_80 0 rfl ?_
    refine rgX5_X5_yearKept F dX5_back_81 ?_
    refine rpX5_X5_yearNow F dX5_back_84 ?_
    refine g_name (wf := mW (zg z) a E) (fun s8 es8 => ?_)
    replace h := h s8 es8
    refine g_aload_n F dX5_back_87 0 rfl ?_
    refine g_aload_n F dX5_back_88 0 rfl ?_
    refine rgX5_X5_paidKept F dX5_back_89 ?_
    refine rpX5_X5_paid F dX5_back_92 ?_
    refine g_name (wf := mW (zg z) a E) (fun s9 es9 => ?_)
    replace h := h s9 es9
    refine g_aload_n F dX5_back_95 0 rfl ?_
    refine g_aload_n F dX5_back_96 0 rfl ?_
    refine rgX5_X5_ruleKept F dX5_back_97 ?_
    refine rpX5_X5_rule F dX5_back_100 ?_
    refine g_name (wf := mW (zg z) a E) (fun s10 es10 => ?_)
    replace h := h s10 es10
    refine g_aload_n F dX5_back_103 0 rfl ?_
    refine rgX5_X5_many F dX5_back_104 ?_
    exact g_iret F R rfl rfl dX5_back_107 ⟨_, _, rfl, rfl, h⟩
  replace h := h.2 c5
  refine g_aload_n F dX5_back_45 0 rfl ?_
  refine rgX5_X5_rows F dX5_back_46 ?_
  refine g_iload_n F dX5_back_49 1 rfl ?_
  refine g_aload_n F dX5_back_50 0 rfl ?_
  refine rgX5_X5_rowsKept F dX5_back_51 ?_
  refine g_iload_n F dX5_back_54 1 rfl ?_
  obtain ⟨hc, h⟩ := h
  refine g_iald (wf := mW (zg z) a E) F mA11 hc dX5_back_55 ?_
  obtain ⟨hc, h⟩ := h
  refine g_iast (wf := mW (zg z) a E) F mA6 hc dX5_back_56 ?_
  refine g_name (wf := mW (zg z) a E) (fun s11 es11 => ?_)
  replace h := h s11 es11
  obtain ⟨x12, ex12⟩ : ∃ q : Int32, q = l1 + (1 : Int32) := ⟨_, rfl⟩
  replace h := h x12 ex12
  refine g_iinc (lv' := [(1, .int x12), (0, .ref (a 0))]) (d := (1 : Int32)) F dX5_back_57 rfl 1 rfl (by decide) ex12.symm rfl ?_
  refine g_goto F dX5_back_60 (tgt := 39) (by decide) ?_
  exact (g_sub [1, 0] rfl h)
set_option maxRecDepth 20000 in
theorem sX5_back_13 {z : kZ} {a : Nat → Nat} {E : va_W}  {Q : Int32 → kS → Prop} {l1 : Int32} {σ : kS} (F : kF z cX5_back RX5 2 { frames := 0, cells := 0, slots := 0, locals := 40 }) (R : kR z (some .int) 0 0 (kPi (mW (zg z) a E) Q)) (h : wX5_back_13 Q l1 σ) : kV z (mW (zg z) a E σ) 0 0 13 [(0, .ref (a 0)), (1, .int l1)] [] := by
  unfold wX5_back_13 at h
  refine h (fun σ l1 => kV z (mW (zg z) a E σ) 0 0 13 [(0, .ref (a 0)), (1, .int l1)] []) (fun σ l1 h => ?_)
  refine g_iload_n F dX5_back_13 1 rfl ?_
  refine g_bipush (v := (36 : Int32)) F dX5_back_14 (by decide) ?_
  refine g_icmp_ge F dX5_back_16 (tgt := 37) (by decide) (fun c2 => ?_) (fun c2 => ?_)
  · replace h := h.1 c2
    refine g_iconst (v := (0 : Int32)) F dX5_back_37 (by decide) ?_
    refine g_istore_n (lv' := [(1, .int (0 : Int32)), (0, .ref (a 0))]) F dX5_back_38 rfl rfl ?_
    exact g_sub [1, 0] rfl (sX5_back_39 F R h)
  replace h := h.2 c2
  refine g_aload_n F dX5_back_19 0 rfl ?_
  refine rgX5_X5_fen F dX5_back_20 ?_
  refine g_iload_n F dX5_back_23 1 rfl ?_
  refine g_aload_n F dX5_back_24 0 rfl ?_
  refine rgX5_X5_fenKept F dX5_back_25 ?_
  refine g_iload_n F dX5_back_28 1 rfl ?_
  obtain ⟨hc, h⟩ := h
  refine g_iald (wf := mW (zg z) a E) F mA10 hc dX5_back_29 ?_
  obtain ⟨hc, h⟩ := h
  refine g_iast (wf := mW (zg z) a E) F mA4 hc dX5_back_30 ?_
  refine g_name (wf := mW (zg z) a E) (fun s3 es3 => ?_)
  replace h := h s3 es3
  obtain ⟨x4, ex4⟩ : ∃ q : Int32, q = l1 + (1 : Int32) := ⟨_, rfl⟩
  replace h := h x4 ex4
  refine g_iinc (lv' := [(1, .int x4), (0, .ref (a 0))]) (d := (1 : Int32)) F dX5_back_31 rfl 1 rfl (by decide) ex4.symm rfl ?_
  refine g_goto F dX5_back_34 (tgt := 13) (by decide) ?_
  exact (g_sub [1, 0] rfl h)
set_option maxRecDepth 20000 in
theorem ctX5_back (l : Launch) (g : kG) (A : Nat → Prop) (a : Nat → Nat) (E : va_W) {σ : kS} {Q : Int32 → kS → Prop} (h : wX5_back σ Q) : kCt l yX5_back cX5_back 2 (some .int) 0 40 0 0 g A [.ref (a 0)] (mW g a E σ) (kPi (mW g a E) Q) := by
  refine kCt.of (lv0 := [(0, .ref (a 0))]) (by decide +kernel) (Nat.le_of_ble_eq_true rfl) rfl (fun z hl hg hA F R => ?_)
  subst hl hg hA
  have F : kF z cX5_back RX5 2 { frames := 0, cells := 0, slots := 0, locals := 40 } := F
  unfold wX5_back at h
  refine g_aload_n F dX5_back_0 0 rfl ?_
  refine rgX5_X5_manyKept F dX5_back_1 ?_
  refine g_iconst (v := (-1 : Int32)) F dX5_back_4 (by decide) ?_
  refine g_icmp_ne F dX5_back_5 (tgt := 11) (by decide) (fun c1 => ?_) (fun c1 => ?_)
  · replace h := h.1 c1
    refine g_iconst (v := (0 : Int32)) F dX5_back_11 (by decide) ?_
    refine g_istore_n (lv' := [(1, .int (0 : Int32)), (0, .ref (a 0))]) F dX5_back_12 rfl rfl ?_
    exact g_sub [1, 0] rfl (sX5_back_13 F R h)
  replace h := h.2 c1
  refine g_bipush (v := (-3 : Int32)) F dX5_back_8 (by decide) ?_
  exact g_iret F R rfl rfl dX5_back_10 ⟨_, _, rfl, rfl, h⟩
set_option maxRecDepth 20000 in
theorem sX5_count_93 {z : kZ} {a : Nat → Nat} {E : va_W}  {Q : Int32 → kS → Prop} {l1 : Int32} {l2 : Int32} {l3 : Int32} {σ : kS} (F : kF z cX5_count RX5 4 { frames := 1, cells := 0, slots := 0, locals := 65 }) (R : kR z (some .int) 0 0 (kPi (mW (zg z) a E) Q)) (h : wX5_count_93 Q l1 l2 l3 σ) : kV z (mW (zg z) a E σ) 0 0 93 [(0, .ref (a 0)), (1, .int l1), (2, .int l2), (3, .int l3)] [] := by
  unfold wX5_count_93 at h
  refine h (fun l2 l3 => kV z (mW (zg z) a E σ) 0 0 93 [(0, .ref (a 0)), (1, .int l1), (2, .int l2), (3, .int l3)] []) (fun l2 l3 h => ?_)
  refine g_iload_n F dX5_count_93 3 rfl ?_
  refine g_aload_n F dX5_count_94 0 rfl ?_
  refine rgX5_X5_many F dX5_count_95 ?_
  refine g_icmp_ge F dX5_count_98 (tgt := 120) (by decide) (fun c12 => ?_) (fun c12 => ?_)
  · replace h := h.1 c12
    refine g_iload_n F dX5_count_120 1 rfl ?_
    refine g_if_ne F dX5_count_121 (tgt := 131) (by decide) (fun c13 => ?_) (fun c13 => ?_)
    · replace h := h.1 c13
      refine g_iload_n F dX5_count_131 2 rfl ?_
      exact g_iret F R rfl rfl dX5_count_132 ⟨_, _, rfl, rfl, h⟩
    replace h := h.2 c13
    refine g_aload_n F dX5_count_124 0 rfl ?_
    refine rgX5_X5_many F dX5_count_125 ?_
    refine g_goto F dX5_count_128 (tgt := 132) (by decide) ?_
    exact g_iret F R rfl rfl dX5_count_132 ⟨_, _, rfl, rfl, h⟩
  replace h := h.2 c12
  refine g_iload_n F dX5_count_101 2 rfl ?_
  refine g_aload_n F dX5_count_102 0 rfl ?_
  refine rgX5_X5_rows F dX5_count_103 ?_
  refine g_iconst (v := (3 : Int32)) F dX5_count_106 (by decide) ?_
  refine g_iload_n F dX5_count_107 3 rfl ?_
  refine g_imul F dX5_count_108 ?_
  refine g_iconst (v := (2 : Int32)) F dX5_count_109 (by decide) ?_
  refine g_iadd F dX5_count_110 ?_
  obtain ⟨hc, h⟩ := h
  refine g_iald (wf := mW (zg z) a E) F mA6 hc dX5_count_111 ?_
  refine g_iadd F dX5_count_112 ?_
  refine g_topi (fun x14 ex14 => ?_)
  replace h := h x14 ex14
  refine g_istore_n (lv' := [(2, .int x14), (0, .ref (a 0)), (1, .int l1), (3, .int l3)]) F dX5_count_113 rfl rfl ?_
  obtain ⟨x15, ex15⟩ : ∃ q : Int32, q = l3 + (1 : Int32) := ⟨_, rfl⟩
  replace h := h x15 ex15
  refine g_iinc (lv' := [(3, .int x15), (2, .int x14), (0, .ref (a 0)), (1, .int l1)]) (d := (1 : Int32)) F dX5_count_114 rfl 3 rfl (by decide) ex15.symm rfl ?_
  refine g_goto F dX5_count_117 (tgt := 93) (by decide) ?_
  exact (g_sub [2, 3, 1, 0] rfl h)
set_option maxRecDepth 20000 in
theorem ctX5_count (l : Launch) (g : kG) (A : Nat → Prop) (a : Nat → Nat) (E : va_W) {l1 : Int32} {σ : kS} {Q : Int32 → kS → Prop} (h : wX5_count l1 σ Q) : kCt l yX5_count cX5_count 4 (some .int) 1 65 0 0 g A [.ref (a 0), .int l1] (mW g a E σ) (kPi (mW g a E) Q) := by
  refine kCt.of (lv0 := [(0, .ref (a 0)), (1, .int l1)]) (by decide +kernel) (Nat.le_of_ble_eq_true rfl) rfl (fun z hl hg hA F R => ?_)
  subst hl hg hA
  have F : kF z cX5_count RX5 4 { frames := 1, cells := 0, slots := 0, locals := 65 } := F
  unfold wX5_count at h
  refine g_iload_n F dX5_count_0 1 rfl ?_
  refine g_i2l F dX5_count_1 ?_
  refine g_lconst (v := (0 : Int64)) F dX5_count_2 (by decide) ?_
  refine g_ldc2 (v := (7 : Int64)) F dX5_count_3 wq957 ?_
  refine rX5_X5_in F dX5_count_6 rfl h (fun r1 h => ?_)
  refine g_if_ne F dX5_count_9 (tgt := 15) (by decide) (fun c2 => ?_) (fun c2 => ?_)
  · replace h := h.1 c2
    refine g_iload_n F dX5_count_15 1 rfl ?_
    refine g_iconst (v := (1 : Int32)) F dX5_count_16 (by decide) ?_
    refine g_icmp_le F dX5_count_17 (tgt := 89) (by decide) (fun c3 => ?_) (fun c3 => ?_)
    · replace h := h.1 c3
      refine g_iconst (v := (0 : Int32)) F dX5_count_89 (by decide) ?_
      refine g_istore_n (lv' := [(2, .int (0 : Int32)), (0, .ref (a 0)), (1, .int l1)]) F dX5_count_90 rfl rfl ?_
      refine g_iconst (v := (0 : Int32)) F dX5_count_91 (by decide) ?_
      refine g_istore_n (lv' := [(3, .int (0 : Int32)), (2, .int (0 : Int32)), (0, .ref (a 0)), (1, .int l1)]) F dX5_count_92 rfl rfl ?_
      exact g_sub [2, 3, 1, 0] rfl (sX5_count_93 F R h)
    replace h := h.2 c3
    refine g_iload_n F dX5_count_20 1 rfl ?_
    refine g_iconst (v := (2 : Int32)) F dX5_count_21 (by decide) ?_
    refine g_icmp_ne F dX5_count_22 (tgt := 35) (by decide) (fun c4 => ?_) (fun c4 => ?_)
    · replace h := h.1 c4
      refine g_iload_n F dX5_count_35 1 rfl ?_
      refine g_iconst (v := (3 : Int32)) F dX5_count_36 (by decide) ?_
      refine g_icmp_ne F dX5_count_37 (tgt := 47) (by decide) (fun c5 => ?_) (fun c5 => ?_)
      · replace h := h.1 c5
        refine g_iload_n F dX5_count_47 1 rfl ?_
        refine g_iconst (v := (4 : Int32)) F dX5_count_48 (by decide) ?_
        refine g_icmp_ne F dX5_count_49 (tgt := 59) (by decide) (fun c6 => ?_) (fun c6 => ?_)
        · replace h := h.1 c6
          refine g_iload_n F dX5_count_59 1 rfl ?_
          refine g_iconst (v := (5 : Int32)) F dX5_count_60 (by decide) ?_
          refine g_icmp_ne F dX5_count_61 (tgt := 71) (by decide) (fun c7 => ?_) (fun c7 => ?_)
          · replace h := h.1 c7
            refine g_iload_n F dX5_count_71 1 rfl ?_
            refine g_bipush (v := (6 : Int32)) F dX5_count_72 (by decide) ?_
            refine g_icmp_ne F dX5_count_74 (tgt := 84) (by decide) (fun c8 => ?_) (fun c8 => ?_)
            · replace h := h.1 c8
              refine g_aload_n F dX5_count_84 0 rfl ?_
              refine rgX5_X5_rule F dX5_count_85 ?_
              exact g_iret F R rfl rfl dX5_count_88 ⟨_, _, rfl, rfl, h⟩
            replace h := h.2 c8
            refine g_aload_n F dX5_count_77 0 rfl ?_
            refine rgX5_X5_taped F dX5_count_78 ?_
            refine g_goto F dX5_count_81 (tgt := 88) (by decide) ?_
            exact g_iret F R rfl rfl dX5_count_88 ⟨_, _, rfl, rfl, h⟩
          replace h := h.2 c7
          refine g_aload_n F dX5_count_64 0 rfl ?_
          refine rgX5_X5_textCount F dX5_count_65 ?_
          refine g_goto F dX5_count_68 (tgt := 88) (by decide) ?_
          exact g_iret F R rfl rfl dX5_count_88 ⟨_, _, rfl, rfl, h⟩
        replace h := h.2 c6
        refine g_aload_n F dX5_count_52 0 rfl ?_
        refine rgX5_X5_paid F dX5_count_53 ?_
        refine g_goto F dX5_count_56 (tgt := 88) (by decide) ?_
        exact g_iret F R rfl rfl dX5_count_88 ⟨_, _, rfl, rfl, h⟩
      replace h := h.2 c5
      refine g_aload_n F dX5_count_40 0 rfl ?_
      refine rgX5_X5_yearNow F dX5_count_41 ?_
      refine g_goto F dX5_count_44 (tgt := 88) (by decide) ?_
      exact g_iret F R rfl rfl dX5_count_88 ⟨_, _, rfl, rfl, h⟩
    replace h := h.2 c4
    refine g_aload_n F dX5_count_25 0 rfl ?_
    refine rX5_X5_drySet F dX5_count_26 rfl h (fun r10 s9 h => ?_)
    refine rX5_X5_bitsOf F dX5_count_29 rfl h (fun r11 h => ?_)
    refine g_goto F dX5_count_32 (tgt := 88) (by decide) ?_
    exact g_iret F R rfl rfl dX5_count_88 ⟨_, _, rfl, rfl, h⟩
  replace h := h.2 c2
  refine g_bipush (v := (-2 : Int32)) F dX5_count_12 (by decide) ?_
  exact g_iret F R rfl rfl dX5_count_14 ⟨_, _, rfl, rfl, h⟩
set_option maxRecDepth 20000 in
theorem sX5_cell_83 {z : kZ} {a : Nat → Nat} {E : va_W}  {Q : Int32 → kS → Prop} {ks0 : Int32} {ks1 : Int32} {σ : kS} (F : kF z cX5_cell RX5 4 { frames := 2, cells := 0, slots := 0, locals := 85 }) (R : kR z (some .int) 0 0 (kPi (mW (zg z) a E) Q)) (h : wX5_cell_83 Q ks0 ks1 σ) : kV z (mW (zg z) a E σ) 0 0 83 [] [.int ks0, .int ks1, .ref (a 15)] := by
  unfold wX5_cell_83 at h
  obtain ⟨hc, h⟩ := h
  refine g_iast (wf := mW (zg z) a E) F mA15 hc dX5_cell_83 ?_
  refine g_name (wf := mW (zg z) a E) (fun s8 es8 => ?_)
  replace h := h s8 es8
  refine g_iconst (v := (1 : Int32)) F dX5_cell_84 (by decide) ?_
  exact g_iret F R rfl rfl dX5_cell_85 ⟨_, _, rfl, rfl, h⟩
set_option maxRecDepth 20000 in
theorem ctX5_cell (l : Launch) (g : kG) (A : Nat → Prop) (a : Nat → Nat) (E : va_W) {l1 : Int32} {l2 : Int32} {l3 : Int32} {σ : kS} {Q : Int32 → kS → Prop} (h : wX5_cell l1 l2 l3 σ Q) : kCt l yX5_cell cX5_cell 4 (some .int) 2 85 0 0 g A [.ref (a 0), .int l1, .int l2, .int l3] (mW g a E σ) (kPi (mW g a E) Q) := by
  refine kCt.of (lv0 := [(0, .ref (a 0)), (1, .int l1), (2, .int l2), (3, .int l3)]) (by decide +kernel) (Nat.le_of_ble_eq_true rfl) rfl (fun z hl hg hA F R => ?_)
  subst hl hg hA
  have F : kF z cX5_cell RX5 4 { frames := 2, cells := 0, slots := 0, locals := 85 } := F
  unfold wX5_cell at h
  refine g_iload_n F dX5_cell_0 1 rfl ?_
  refine rX5_X5_isSheet F dX5_cell_1 rfl h (fun r1 h => ?_)
  refine g_if_ne F dX5_cell_4 (tgt := 10) (by decide) (fun c2 => ?_) (fun c2 => ?_)
  · replace h := h.1 c2
    refine g_aload_n F dX5_cell_10 0 rfl ?_
    refine rgX5_X5_isThere F dX5_cell_11 ?_
    refine g_iload_n F dX5_cell_14 1 rfl ?_
    obtain ⟨hc, h⟩ := h
    refine g_zald (wf := mW (zg z) a E) F mA12 hc dX5_cell_15 ?_
    refine g_if_ne F dX5_cell_16 (tgt := 22) (by decide) (fun c3 => ?_) (fun c3 => ?_)
    · replace h := h.1 c3
      refine g_iload_n F dX5_cell_22 2 rfl ?_
      refine g_i2l F dX5_cell_23 ?_
      refine g_lconst (v := (0 : Int64)) F dX5_cell_24 (by decide) ?_
      refine g_aload_n F dX5_cell_25 0 rfl ?_
      refine rgX5_X5_sheetSize F dX5_cell_26 ?_
      refine g_iload_n F dX5_cell_29 1 rfl ?_
      obtain ⟨hc, h⟩ := h
      refine g_iald (wf := mW (zg z) a E) F mA14 hc dX5_cell_30 ?_
      refine g_iconst (v := (1 : Int32)) F dX5_cell_31 (by decide) ?_
      refine g_isub F dX5_cell_32 ?_
      refine g_i2l F dX5_cell_33 ?_
      refine rX5_X5_in F dX5_cell_34 rfl h (fun r4 h => ?_)
      refine g_if_ne F dX5_cell_37 (tgt := 43) (by decide) (fun c5 => ?_) (fun c5 => ?_)
      · replace h := h.1 c5
        refine g_aload_n F dX5_cell_43 0 rfl ?_
        refine rgX5_X5_items F dX5_cell_44 ?_
        refine g_bipush (v := (40 : Int32)) F dX5_cell_47 (by decide) ?_
        refine g_iload_n F dX5_cell_49 1 rfl ?_
        refine g_imul F dX5_cell_50 ?_
        refine g_iload_n F dX5_cell_51 2 rfl ?_
        refine g_iadd F dX5_cell_52 ?_
        refine g_aload_n F dX5_cell_53 0 rfl ?_
        refine rgX5_X5_sorts F dX5_cell_54 ?_
        refine g_iload_n F dX5_cell_57 1 rfl ?_
        obtain ⟨hc, h⟩ := h
        refine g_iald (wf := mW (zg z) a E) F mA13 hc dX5_cell_58 ?_
        refine g_if_ne F dX5_cell_59 (tgt := 67) (by decide) (fun c6 => ?_) (fun c6 => ?_)
        · replace h := h.1 c6
          refine g_aload_n F dX5_cell_67 0 rfl ?_
          refine rgX5_X5_sorts F dX5_cell_68 ?_
          refine g_iload_n F dX5_cell_71 1 rfl ?_
          obtain ⟨hc, h⟩ := h
          refine g_iald (wf := mW (zg z) a E) F mA13 hc dX5_cell_72 ?_
          refine g_iconst (v := (1 : Int32)) F dX5_cell_73 (by decide) ?_
          refine g_icmp_ne F dX5_cell_74 (tgt := 82) (by decide) (fun c7 => ?_) (fun c7 => ?_)
          · replace h := h.1 c7
            refine g_iload_n F dX5_cell_82 3 rfl ?_
            exact g_sub [] rfl (sX5_cell_83 F R h)
          replace h := h.2 c7
          refine g_iload_n F dX5_cell_77 3 rfl ?_
          refine g_i2s F dX5_cell_78 ?_
          refine g_goto F dX5_cell_79 (tgt := 83) (by decide) ?_
          exact g_sub [] rfl (sX5_cell_83 F R h)
        replace h := h.2 c6
        refine g_iload_n F dX5_cell_62 3 rfl ?_
        refine g_i2b F dX5_cell_63 ?_
        refine g_goto F dX5_cell_64 (tgt := 83) (by decide) ?_
        exact g_sub [] rfl (sX5_cell_83 F R h)
      replace h := h.2 c5
      refine g_bipush (v := (-12 : Int32)) F dX5_cell_40 (by decide) ?_
      exact g_iret F R rfl rfl dX5_cell_42 ⟨_, _, rfl, rfl, h⟩
    replace h := h.2 c3
    refine g_bipush (v := (-11 : Int32)) F dX5_cell_19 (by decide) ?_
    exact g_iret F R rfl rfl dX5_cell_21 ⟨_, _, rfl, rfl, h⟩
  replace h := h.2 c2
  refine g_bipush (v := (-2 : Int32)) F dX5_cell_7 (by decide) ?_
  exact g_iret F R rfl rfl dX5_cell_9 ⟨_, _, rfl, rfl, h⟩
set_option maxRecDepth 20000 in
theorem sX5_copy_145 {z : kZ} {a : Nat → Nat} {E : va_W}  {Q : Int32 → kS → Prop} {P121 : kS → Int32 → Prop} {l1 : Int32} {l2 : Int32} {l3 : Int32} {l4 : Int32} {l5 : Int32} {l6 : Int32} {l7 : Int32} {ks0 : Int32} {σ : kS} (F : kF z cX5_copy RX5 9 { frames := 2, cells := 0, slots := 0, locals := 85 }) (R : kR z (some .int) 0 0 (kPi (mW (zg z) a E) Q)) (hP121 : ∀ (σ : kS) (l7 : Int32), P121 σ l7 → kV z (mW (zg z) a E σ) 0 0 121 [(0, .ref (a 0)), (1, .int l1), (2, .int l2), (3, .int l3), (4, .int l4), (5, .int l5), (6, .int l6), (7, .int l7)] []) (h : wX5_copy_145 Q P121 l1 l2 l3 l4 l5 l6 l7 ks0 σ) : kV z (mW (zg z) a E σ) 0 0 145 [(0, .ref (a 0)), (1, .int l1), (2, .int l2), (3, .int l3), (4, .int l4), (5, .int l5), (6, .int l6), (7, .int l7)] [.int ks0] := by
  unfold wX5_copy_145 at h
  refine g_istore (lv' := [(8, .int ks0), (0, .ref (a 0)), (1, .int l1), (2, .int l2), (3, .int l3), (4, .int l4), (5, .int l5), (6, .int l6), (7, .int l7)]) F dX5_copy_145 rfl rfl ?_
  refine g_aload_n F dX5_copy_147 1 rfl ?_
  refine rgX5_X5_items F dX5_copy_148 ?_
  refine g_bipush (v := (40 : Int32)) F dX5_copy_151 (by decide) ?_
  refine g_iload_n F dX5_copy_153 4 rfl ?_
  refine g_imul F dX5_copy_154 ?_
  refine g_iload F dX5_copy_155 5 rfl ?_
  refine g_iadd F dX5_copy_157 ?_
  refine g_iload F dX5_copy_158 0 rfl ?_
  refine g_iadd F dX5_copy_160 ?_
  refine g_aload_n F dX5_copy_161 1 rfl ?_
  refine rgX5_X5_items F dX5_copy_162 ?_
  refine g_bipush (v := (40 : Int32)) F dX5_copy_165 (by decide) ?_
  refine g_iload_n F dX5_copy_167 2 rfl ?_
  refine g_imul F dX5_copy_168 ?_
  refine g_iload_n F dX5_copy_169 3 rfl ?_
  refine g_iadd F dX5_copy_170 ?_
  refine g_iload F dX5_copy_171 0 rfl ?_
  refine g_iadd F dX5_copy_173 ?_
  obtain ⟨hc, h⟩ := h
  refine g_iald (wf := mW (zg z) a E) F mA15 hc dX5_copy_174 ?_
  obtain ⟨hc, h⟩ := h
  refine g_iast (wf := mW (zg z) a E) F mA15 hc dX5_copy_175 ?_
  refine g_name (wf := mW (zg z) a E) (fun s17 es17 => ?_)
  replace h := h s17 es17
  obtain ⟨x18, ex18⟩ : ∃ q : Int32, q = l7 + (1 : Int32) := ⟨_, rfl⟩
  replace h := h x18 ex18
  refine g_iinc (lv' := [(7, .int x18), (8, .int ks0), (0, .ref (a 0)), (1, .int l1), (2, .int l2), (3, .int l3), (4, .int l4), (5, .int l5), (6, .int l6)]) (d := (1 : Int32)) F dX5_copy_176 rfl 8 rfl (by decide) ex18.symm rfl ?_
  refine g_goto F dX5_copy_179 (tgt := 121) (by decide) ?_
  exact g_sub [2, 3, 4, 5, 6, 7, 8, 0] rfl (hP121 _ _ h)
set_option maxRecDepth 20000 in
theorem sX5_copy_121 {z : kZ} {a : Nat → Nat} {E : va_W}  {Q : Int32 → kS → Prop} {l1 : Int32} {l2 : Int32} {l3 : Int32} {l4 : Int32} {l5 : Int32} {l6 : Int32} {l7 : Int32} {σ : kS} (F : kF z cX5_copy RX5 9 { frames := 2, cells := 0, slots := 0, locals := 85 }) (R : kR z (some .int) 0 0 (kPi (mW (zg z) a E) Q)) (h : wX5_copy_121 Q l1 l2 l3 l4 l5 l6 l7 σ) : kV z (mW (zg z) a E σ) 0 0 121 [(0, .ref (a 0)), (1, .int l1), (2, .int l2), (3, .int l3), (4, .int l4), (5, .int l5), (6, .int l6), (7, .int l7)] [] := by
  unfold wX5_copy_121 at h
  refine h (fun σ l7 => kV z (mW (zg z) a E σ) 0 0 121 [(0, .ref (a 0)), (1, .int l1), (2, .int l2), (3, .int l3), (4, .int l4), (5, .int l5), (6, .int l6), (7, .int l7)] []) (fun σ l7 h => ?_)
  refine g_iload F dX5_copy_121 7 rfl ?_
  refine g_iload F dX5_copy_123 5 rfl ?_
  refine g_icmp_ge F dX5_copy_125 (tgt := 182) (by decide) (fun c15 => ?_) (fun c15 => ?_)
  · replace h := h.1 c15
    refine g_iload F dX5_copy_182 5 rfl ?_
    exact g_iret F R rfl rfl dX5_copy_184 ⟨_, _, rfl, rfl, h⟩
  replace h := h.2 c15
  refine g_iload F dX5_copy_128 6 rfl ?_
  refine g_if_eq F dX5_copy_130 (tgt := 143) (by decide) (fun c16 => ?_) (fun c16 => ?_)
  · replace h := h.1 c16
    refine g_iload F dX5_copy_143 7 rfl ?_
    exact (sX5_copy_145 F R (fun _ _ h => h) h)
  replace h := h.2 c16
  refine g_iload F dX5_copy_133 5 rfl ?_
  refine g_iconst (v := (1 : Int32)) F dX5_copy_135 (by decide) ?_
  refine g_isub F dX5_copy_136 ?_
  refine g_iload F dX5_copy_137 7 rfl ?_
  refine g_isub F dX5_copy_139 ?_
  refine g_goto F dX5_copy_140 (tgt := 145) (by decide) ?_
  exact (sX5_copy_145 F R (fun _ _ h => h) h)
set_option maxRecDepth 20000 in
theorem ctX5_copy (l : Launch) (g : kG) (A : Nat → Prop) (a : Nat → Nat) (E : va_W) {l1 : Int32} {l2 : Int32} {l3 : Int32} {l4 : Int32} {l5 : Int32} {σ : kS} {Q : Int32 → kS → Prop} (h : wX5_copy l1 l2 l3 l4 l5 σ Q) : kCt l yX5_copy cX5_copy 9 (some .int) 2 85 0 0 g A [.ref (a 0), .int l1, .int l2, .int l3, .int l4, .int l5] (mW g a E σ) (kPi (mW g a E) Q) := by
  refine kCt.of (lv0 := [(0, .ref (a 0)), (1, .int l1), (2, .int l2), (3, .int l3), (4, .int l4), (5, .int l5)]) (by decide +kernel) (Nat.le_of_ble_eq_true rfl) rfl (fun z hl hg hA F R => ?_)
  subst hl hg hA
  have F : kF z cX5_copy RX5 9 { frames := 2, cells := 0, slots := 0, locals := 85 } := F
  unfold wX5_copy at h
  refine g_iload_n F dX5_copy_0 1 rfl ?_
  refine rX5_X5_isSheet F dX5_copy_1 rfl h (fun r1 h => ?_)
  refine g_if_eq F dX5_copy_4 (tgt := 14) (by decide) (fun c2 => ?_) (fun c2 => ?_)
  · replace h := h.1 c2
    refine g_bipush (v := (-2 : Int32)) F dX5_copy_14 (by decide) ?_
    exact g_iret F R rfl rfl dX5_copy_16 ⟨_, _, rfl, rfl, h⟩
  replace h := h.2 c2
  refine g_iload_n F dX5_copy_7 3 rfl ?_
  refine rX5_X5_isSheet F dX5_copy_8 rfl h (fun r3 h => ?_)
  refine g_if_ne F dX5_copy_11 (tgt := 17) (by decide) (fun c4 => ?_) (fun c4 => ?_)
  · replace h := h.1 c4
    refine g_aload_n F dX5_copy_17 0 rfl ?_
    refine rgX5_X5_isThere F dX5_copy_18 ?_
    refine g_iload_n F dX5_copy_21 1 rfl ?_
    obtain ⟨hc, h⟩ := h
    refine g_zald (wf := mW (zg z) a E) F mA12 hc dX5_copy_22 ?_
    refine g_if_eq F dX5_copy_23 (tgt := 35) (by decide) (fun c5 => ?_) (fun c5 => ?_)
    · replace h := h.1 c5
      refine g_bipush (v := (-11 : Int32)) F dX5_copy_35 (by decide) ?_
      exact g_iret F R rfl rfl dX5_copy_37 ⟨_, _, rfl, rfl, h⟩
    replace h := h.2 c5
    refine g_aload_n F dX5_copy_26 0 rfl ?_
    refine rgX5_X5_isThere F dX5_copy_27 ?_
    refine g_iload_n F dX5_copy_30 3 rfl ?_
    obtain ⟨hc, h⟩ := h
    refine g_zald (wf := mW (zg z) a E) F mA12 hc dX5_copy_31 ?_
    refine g_if_ne F dX5_copy_32 (tgt := 38) (by decide) (fun c6 => ?_) (fun c6 => ?_)
    · replace h := h.1 c6
      refine g_aload_n F dX5_copy_38 0 rfl ?_
      refine rgX5_X5_sorts F dX5_copy_39 ?_
      refine g_iload_n F dX5_copy_42 1 rfl ?_
      obtain ⟨hc, h⟩ := h
      refine g_iald (wf := mW (zg z) a E) F mA13 hc dX5_copy_43 ?_
      refine g_aload_n F dX5_copy_44 0 rfl ?_
      refine rgX5_X5_sorts F dX5_copy_45 ?_
      refine g_iload_n F dX5_copy_48 3 rfl ?_
      obtain ⟨hc, h⟩ := h
      refine g_iald (wf := mW (zg z) a E) F mA13 hc dX5_copy_49 ?_
      refine g_icmp_eq F dX5_copy_50 (tgt := 56) (by decide) (fun c7 => ?_) (fun c7 => ?_)
      · replace h := h.1 c7
        refine g_iload F dX5_copy_56 5 rfl ?_
        refine g_if_lt F dX5_copy_58 (tgt := 97) (by decide) (fun c8 => ?_) (fun c8 => ?_)
        · replace h := h.1 c8
          refine g_bipush (v := (-12 : Int32)) F dX5_copy_97 (by decide) ?_
          exact g_iret F R rfl rfl dX5_copy_99 ⟨_, _, rfl, rfl, h⟩
        replace h := h.2 c8
        refine g_iload_n F dX5_copy_61 2 rfl ?_
        refine g_if_lt F dX5_copy_62 (tgt := 97) (by decide) (fun c9 => ?_) (fun c9 => ?_)
        · replace h := h.1 c9
          refine g_bipush (v := (-12 : Int32)) F dX5_copy_97 (by decide) ?_
          exact g_iret F R rfl rfl dX5_copy_99 ⟨_, _, rfl, rfl, h⟩
        replace h := h.2 c9
        refine g_iload F dX5_copy_65 4 rfl ?_
        refine g_if_lt F dX5_copy_67 (tgt := 97) (by decide) (fun c10 => ?_) (fun c10 => ?_)
        · replace h := h.1 c10
          refine g_bipush (v := (-12 : Int32)) F dX5_copy_97 (by decide) ?_
          exact g_iret F R rfl rfl dX5_copy_99 ⟨_, _, rfl, rfl, h⟩
        replace h := h.2 c10
        refine g_iload_n F dX5_copy_70 2 rfl ?_
        refine g_aload_n F dX5_copy_71 0 rfl ?_
        refine rgX5_X5_sheetSize F dX5_copy_72 ?_
        refine g_iload_n F dX5_copy_75 1 rfl ?_
        obtain ⟨hc, h⟩ := h
        refine g_iald (wf := mW (zg z) a E) F mA14 hc dX5_copy_76 ?_
        refine g_iload F dX5_copy_77 5 rfl ?_
        refine g_isub F dX5_copy_79 ?_
        refine g_icmp_gt F dX5_copy_80 (tgt := 97) (by decide) (fun c11 => ?_) (fun c11 => ?_)
        · replace h := h.1 c11
          refine g_bipush (v := (-12 : Int32)) F dX5_copy_97 (by decide) ?_
          exact g_iret F R rfl rfl dX5_copy_99 ⟨_, _, rfl, rfl, h⟩
        replace h := h.2 c11
        refine g_iload F dX5_copy_83 4 rfl ?_
        refine g_aload_n F dX5_copy_85 0 rfl ?_
        refine rgX5_X5_sheetSize F dX5_copy_86 ?_
        refine g_iload_n F dX5_copy_89 3 rfl ?_
        obtain ⟨hc, h⟩ := h
        refine g_iald (wf := mW (zg z) a E) F mA14 hc dX5_copy_90 ?_
        refine g_iload F dX5_copy_91 5 rfl ?_
        refine g_isub F dX5_copy_93 ?_
        refine g_icmp_le F dX5_copy_94 (tgt := 100) (by decide) (fun c12 => ?_) (fun c12 => ?_)
        · replace h := h.1 c12
          refine g_iload_n F dX5_copy_100 1 rfl ?_
          refine g_iload_n F dX5_copy_101 3 rfl ?_
          refine g_icmp_ne F dX5_copy_102 (tgt := 115) (by decide) (fun c13 => ?_) (fun c13 => ?_)
          · replace h := h.1 c13
            refine g_iconst (v := (0 : Int32)) F dX5_copy_115 (by decide) ?_
            refine g_istore (lv' := [(6, .int (0 : Int32)), (0, .ref (a 0)), (1, .int l1), (2, .int l2), (3, .int l3), (4, .int l4), (5, .int l5)]) F dX5_copy_116 rfl rfl ?_
            refine g_iconst (v := (0 : Int32)) F dX5_copy_118 (by decide) ?_
            refine g_istore (lv' := [(7, .int (0 : Int32)), (6, .int (0 : Int32)), (0, .ref (a 0)), (1, .int l1), (2, .int l2), (3, .int l3), (4, .int l4), (5, .int l5)]) F dX5_copy_119 rfl rfl ?_
            exact g_sub [2, 3, 4, 5, 6, 7, 1, 0] rfl (sX5_copy_121 F R h)
          replace h := h.2 c13
          refine g_iload_n F dX5_copy_105 2 rfl ?_
          refine g_iload F dX5_copy_106 4 rfl ?_
          refine g_icmp_ge F dX5_copy_108 (tgt := 115) (by decide) (fun c14 => ?_) (fun c14 => ?_)
          · replace h := h.1 c14
            refine g_iconst (v := (0 : Int32)) F dX5_copy_115 (by decide) ?_
            refine g_istore (lv' := [(6, .int (0 : Int32)), (0, .ref (a 0)), (1, .int l1), (2, .int l2), (3, .int l3), (4, .int l4), (5, .int l5)]) F dX5_copy_116 rfl rfl ?_
            refine g_iconst (v := (0 : Int32)) F dX5_copy_118 (by decide) ?_
            refine g_istore (lv' := [(7, .int (0 : Int32)), (6, .int (0 : Int32)), (0, .ref (a 0)), (1, .int l1), (2, .int l2), (3, .int l3), (4, .int l4), (5, .int l5)]) F dX5_copy_119 rfl rfl ?_
            exact g_sub [2, 3, 4, 5, 6, 7, 1, 0] rfl (sX5_copy_121 F R h)
          replace h := h.2 c14
          refine g_iconst (v := (1 : Int32)) F dX5_copy_111 (by decide) ?_
          refine g_goto F dX5_copy_112 (tgt := 116) (by decide) ?_
          refine g_istore (lv' := [(6, .int (1 : Int32)), (0, .ref (a 0)), (1, .int l1), (2, .int l2), (3, .int l3), (4, .int l4), (5, .int l5)]) F dX5_copy_116 rfl rfl ?_
          refine g_iconst (v := (0 : Int32)) F dX5_copy_118 (by decide) ?_
          refine g_istore (lv' := [(7, .int (0 : Int32)), (6, .int (1 : Int32)), (0, .ref (a 0)), (1, .int l1), (2, .int l2), (3, .int l3), (4, .int l4), (5, .int l5)]) F dX5_copy_119 rfl rfl ?_
          exact g_sub [2, 3, 4, 5, 6, 7, 1, 0] rfl (sX5_copy_121 F R h)
        replace h := h.2 c12
        refine g_bipush (v := (-12 : Int32)) F dX5_copy_97 (by decide) ?_
        exact g_iret F R rfl rfl dX5_copy_99 ⟨_, _, rfl, rfl, h⟩
      replace h := h.2 c7
      refine g_bipush (v := (-13 : Int32)) F dX5_copy_53 (by decide) ?_
      exact g_iret F R rfl rfl dX5_copy_55 ⟨_, _, rfl, rfl, h⟩
    replace h := h.2 c6
    refine g_bipush (v := (-11 : Int32)) F dX5_copy_35 (by decide) ?_
    exact g_iret F R rfl rfl dX5_copy_37 ⟨_, _, rfl, rfl, h⟩
  replace h := h.2 c4
  refine g_bipush (v := (-2 : Int32)) F dX5_copy_14 (by decide) ?_
  exact g_iret F R rfl rfl dX5_copy_16 ⟨_, _, rfl, rfl, h⟩
