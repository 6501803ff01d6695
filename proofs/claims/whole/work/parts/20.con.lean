set_option maxRecDepth 20000 in
theorem ctX5_in (l : Launch) (g : kG) (A : Nat → Prop) (ws : va_W) {l0 : Int64} {l2 : Int64} {l4 : Int64} {Q : Int32 → Prop} (h : wX5_in l0 l2 l4 Q) : kCt l yX5_in cX5_in 6 (some .boolean) 0 40 0 0 g A [.long l0, .long l2, .long l4] ws (kTi ws Q) := by
  refine kCt.of (lv0 := [(0, .long l0), (2, .long l2), (4, .long l4)]) (by decide +kernel) (Nat.le_of_ble_eq_true rfl) rfl (fun z hl hg hA F R => ?_)
  subst hl hg hA
  have F : kF z cX5_in RX5 6 { frames := 0, cells := 0, slots := 0, locals := 40 } := F
  unfold wX5_in at h
  refine g_lload_n F dX5_in_0 0 rfl ?_
  refine g_lload_n F dX5_in_1 1 rfl ?_
  refine g_lcmp F dX5_in_2 ?_
  refine g_if_lt F dX5_in_3 (tgt := 17) (by decide) (fun c1 => ?_) (fun c1 => ?_)
  · replace h := h.1 c1
    refine g_iconst (v := (0 : Int32)) F dX5_in_17 (by decide) ?_
    exact g_zret F R rfl rfl rfl dX5_in_18 ⟨_, rfl, rfl, h⟩
  replace h := h.2 c1
  refine g_lload_n F dX5_in_6 0 rfl ?_
  refine g_lload F dX5_in_7 2 rfl ?_
  refine g_lcmp F dX5_in_9 ?_
  refine g_if_gt F dX5_in_10 (tgt := 17) (by decide) (fun c2 => ?_) (fun c2 => ?_)
  · replace h := h.1 c2
    refine g_iconst (v := (0 : Int32)) F dX5_in_17 (by decide) ?_
    exact g_zret F R rfl rfl rfl dX5_in_18 ⟨_, rfl, rfl, h⟩
  replace h := h.2 c2
  refine g_iconst (v := (1 : Int32)) F dX5_in_13 (by decide) ?_
  refine g_goto F dX5_in_14 (tgt := 18) (by decide) ?_
  exact g_zret F R rfl rfl rfl dX5_in_18 ⟨_, rfl, rfl, h⟩
set_option maxRecDepth 20000 in
theorem ctX5_within (l : Launch) (g : kG) (A : Nat → Prop) (ws : va_W) {l0 : Int32} {l1 : Int32} {l2 : Int32} {Q : Int32 → Prop} (h : wX5_within l0 l1 l2 Q) : kCt l yX5_within cX5_within 3 (some .int) 0 40 0 0 g A [.int l0, .int l1, .int l2] ws (kTi ws Q) := by
  refine kCt.of (lv0 := [(0, .int l0), (1, .int l1), (2, .int l2)]) (by decide +kernel) (Nat.le_of_ble_eq_true rfl) rfl (fun z hl hg hA F R => ?_)
  subst hl hg hA
  have F : kF z cX5_within RX5 3 { frames := 0, cells := 0, slots := 0, locals := 40 } := F
  unfold wX5_within at h
  refine g_iload_n F dX5_within_0 0 rfl ?_
  refine g_iload_n F dX5_within_1 1 rfl ?_
  refine g_icmp_ge F dX5_within_2 (tgt := 9) (by decide) (fun c1 => ?_) (fun c1 => ?_)
  · replace h := h.1 c1
    refine g_iload_n F dX5_within_9 0 rfl ?_
    refine g_iload_n F dX5_within_10 2 rfl ?_
    refine g_icmp_le F dX5_within_11 (tgt := 18) (by decide) (fun c2 => ?_) (fun c2 => ?_)
    · replace h := h.1 c2
      refine g_iload_n F dX5_within_18 0 rfl ?_
      exact g_iret F R rfl rfl dX5_within_19 ⟨_, rfl, rfl, h⟩
    replace h := h.2 c2
    refine g_iload_n F dX5_within_14 2 rfl ?_
    refine g_goto F dX5_within_15 (tgt := 19) (by decide) ?_
    exact g_iret F R rfl rfl dX5_within_19 ⟨_, rfl, rfl, h⟩
  replace h := h.2 c1
  refine g_iload_n F dX5_within_5 1 rfl ?_
  refine g_goto F dX5_within_6 (tgt := 19) (by decide) ?_
  exact g_iret F R rfl rfl dX5_within_19 ⟨_, rfl, rfl, h⟩
set_option maxRecDepth 20000 in
theorem ctX5_spell (l : Launch) (g : kG) (A : Nat → Prop) (a : Nat → Nat) (E : va_W) {l1 : Int32} {l2 : Int32} {l3 : Int32} {l4 : Int32} {l5 : Int32} {l6 : Int32} {l7 : Int32} {l8 : Int32} {l9 : Int32} {σ : kS} {Q : kS → Prop} (h : wX5_spell l1 l2 l3 l4 l5 l6 l7 l8 l9 σ Q) : kCt l yX5_spell cX5_spell 10 none 0 40 0 0 g A [.ref (a 0), .int l1, .int l2, .int l3, .int l4, .int l5, .int l6, .int l7, .int l8, .int l9] (mW g a E σ) (kPv (mW g a E) Q) := by
  refine kCt.of (lv0 := [(0, .ref (a 0)), (1, .int l1), (2, .int l2), (3, .int l3), (4, .int l4), (5, .int l5), (6, .int l6), (7, .int l7), (8, .int l8), (9, .int l9)]) (by decide +kernel) (Nat.le_of_ble_eq_true rfl) rfl (fun z hl hg hA F R => ?_)
  subst hl hg hA
  have F : kF z cX5_spell RX5 10 { frames := 0, cells := 0, slots := 0, locals := 40 } := F
  unfold wX5_spell at h
  refine g_aload_n F dX5_spell_0 0 rfl ?_
  refine rgX5_X5_texts F dX5_spell_1 ?_
  refine g_iload_n F dX5_spell_4 1 rfl ?_
  refine g_iload_n F dX5_spell_5 2 rfl ?_
  obtain ⟨hc, h⟩ := h
  refine g_iast (wf := mW (zg z) a E) F mA1 hc dX5_spell_6 ?_
  refine g_name (wf := mW (zg z) a E) (fun s1 es1 => ?_)
  replace h := h s1 es1
  refine g_aload_n F dX5_spell_7 0 rfl ?_
  refine rgX5_X5_texts F dX5_spell_8 ?_
  refine g_iload_n F dX5_spell_11 1 rfl ?_
  refine g_iconst (v := (1 : Int32)) F dX5_spell_12 (by decide) ?_
  refine g_iadd F dX5_spell_13 ?_
  refine g_iload_n F dX5_spell_14 3 rfl ?_
  obtain ⟨hc, h⟩ := h
  refine g_iast (wf := mW (zg z) a E) F mA1 hc dX5_spell_15 ?_
  refine g_name (wf := mW (zg z) a E) (fun s2 es2 => ?_)
  replace h := h s2 es2
  refine g_aload_n F dX5_spell_16 0 rfl ?_
  refine rgX5_X5_texts F dX5_spell_17 ?_
  refine g_iload_n F dX5_spell_20 1 rfl ?_
  refine g_iconst (v := (2 : Int32)) F dX5_spell_21 (by decide) ?_
  refine g_iadd F dX5_spell_22 ?_
  refine g_iload F dX5_spell_23 4 rfl ?_
  obtain ⟨hc, h⟩ := h
  refine g_iast (wf := mW (zg z) a E) F mA1 hc dX5_spell_25 ?_
  refine g_name (wf := mW (zg z) a E) (fun s3 es3 => ?_)
  replace h := h s3 es3
  refine g_aload_n F dX5_spell_26 0 rfl ?_
  refine rgX5_X5_texts F dX5_spell_27 ?_
  refine g_iload_n F dX5_spell_30 1 rfl ?_
  refine g_iconst (v := (3 : Int32)) F dX5_spell_31 (by decide) ?_
  refine g_iadd F dX5_spell_32 ?_
  refine g_iload F dX5_spell_33 5 rfl ?_
  obtain ⟨hc, h⟩ := h
  refine g_iast (wf := mW (zg z) a E) F mA1 hc dX5_spell_35 ?_
  refine g_name (wf := mW (zg z) a E) (fun s4 es4 => ?_)
  replace h := h s4 es4
  refine g_aload_n F dX5_spell_36 0 rfl ?_
  refine rgX5_X5_texts F dX5_spell_37 ?_
  refine g_iload_n F dX5_spell_40 1 rfl ?_
  refine g_iconst (v := (4 : Int32)) F dX5_spell_41 (by decide) ?_
  refine g_iadd F dX5_spell_42 ?_
  refine g_iload F dX5_spell_43 6 rfl ?_
  obtain ⟨hc, h⟩ := h
  refine g_iast (wf := mW (zg z) a E) F mA1 hc dX5_spell_45 ?_
  refine g_name (wf := mW (zg z) a E) (fun s5 es5 => ?_)
  replace h := h s5 es5
  refine g_aload_n F dX5_spell_46 0 rfl ?_
  refine rgX5_X5_texts F dX5_spell_47 ?_
  refine g_iload_n F dX5_spell_50 1 rfl ?_
  refine g_iconst (v := (5 : Int32)) F dX5_spell_51 (by decide) ?_
  refine g_iadd F dX5_spell_52 ?_
  refine g_iload F dX5_spell_53 7 rfl ?_
  obtain ⟨hc, h⟩ := h
  refine g_iast (wf := mW (zg z) a E) F mA1 hc dX5_spell_55 ?_
  refine g_name (wf := mW (zg z) a E) (fun s6 es6 => ?_)
  replace h := h s6 es6
  refine g_aload_n F dX5_spell_56 0 rfl ?_
  refine rgX5_X5_texts F dX5_spell_57 ?_
  refine g_iload_n F dX5_spell_60 1 rfl ?_
  refine g_bipush (v := (6 : Int32)) F dX5_spell_61 (by decide) ?_
  refine g_iadd F dX5_spell_63 ?_
  refine g_iload F dX5_spell_64 8 rfl ?_
  obtain ⟨hc, h⟩ := h
  refine g_iast (wf := mW (zg z) a E) F mA1 hc dX5_spell_66 ?_
  refine g_name (wf := mW (zg z) a E) (fun s7 es7 => ?_)
  replace h := h s7 es7
  refine g_aload_n F dX5_spell_67 0 rfl ?_
  refine rgX5_X5_texts F dX5_spell_68 ?_
  refine g_iload_n F dX5_spell_71 1 rfl ?_
  refine g_bipush (v := (7 : Int32)) F dX5_spell_72 (by decide) ?_
  refine g_iadd F dX5_spell_74 ?_
  refine g_iload F dX5_spell_75 9 rfl ?_
  obtain ⟨hc, h⟩ := h
  refine g_iast (wf := mW (zg z) a E) F mA1 hc dX5_spell_77 ?_
  refine g_name (wf := mW (zg z) a E) (fun s8 es8 => ?_)
  replace h := h s8 es8
  exact g_vret F R rfl rfl dX5_spell_78 ⟨_, rfl, rfl, h⟩
theorem plX5_in : kPlain yX5_in 3 = true := by decide +kernel
theorem rX5_X5_in {z : kZ} {cc : ByteArray} {nL : Nat} {rm : Room} {c n pc : Nat} {lv : List (Nat × Value)} {st : List Value} {ws : va_W} {l0 : Int64} {l2 : Int64} {l4 : Int64} {Q : Int32 → Prop} (F : kF z cc RX5 nL rm) (hd : decode cc pc = .ok (.invokestatic 76, 3)) (hf : kFits rm 0 40 0 0 6 c n st = true) (h : wX5_in l0 l2 l4 Q) (k : ∀ v : Int32, Q v → kV z ws c n (pc + 3) lv (.int v :: st)) : kV z ws c n pc lv (.long l4 :: .long l2 :: .long l0 :: st) := g_callS F (av := [.long l0, .long l2, .long l4]) (ctX5_in _ _ _ ws h) wq958 wq959 wq114 wq960 plX5_in hd hf (fun r ws' hq => by
    obtain ⟨v, rfl, rfl, hq⟩ := hq
    exact k v hq)
set_option maxRecDepth 20000 in
theorem ctX5_isWork (l : Launch) (g : kG) (A : Nat → Prop) (a : Nat → Nat) (E : va_W) {l1 : Int32} {σ : kS} {Q : Int32 → kS → Prop} (h : wX5_isWork l1 σ Q) : kCt l yX5_isWork cX5_isWork 2 (some .boolean) 1 65 0 0 g A [.ref (a 0), .int l1] (mW g a E σ) (kPi (mW g a E) Q) := by
  refine kCt.of (lv0 := [(0, .ref (a 0)), (1, .int l1)]) (by decide +kernel) (Nat.le_of_ble_eq_true rfl) rfl (fun z hl hg hA F R => ?_)
  subst hl hg hA
  have F : kF z cX5_isWork RX5 2 { frames := 1, cells := 0, slots := 0, locals := 65 } := F
  unfold wX5_isWork at h
  refine g_iload_n F dX5_isWork_0 1 rfl ?_
  refine g_i2l F dX5_isWork_1 ?_
  refine g_lconst (v := (0 : Int64)) F dX5_isWork_2 (by decide) ?_
  refine g_aload_n F dX5_isWork_3 0 rfl ?_
  refine rgX5_X5_many F dX5_isWork_4 ?_
  refine g_iconst (v := (1 : Int32)) F dX5_isWork_7 (by decide) ?_
  refine g_isub F dX5_isWork_8 ?_
  refine g_i2l F dX5_isWork_9 ?_
  refine rX5_X5_in F dX5_isWork_10 rfl h (fun r1 h => ?_)
  obtain ⟨hz, h⟩ := h
  exact g_zret F R (kBool hz) rfl rfl dX5_isWork_13 ⟨_, _, rfl, rfl, h⟩
set_option maxRecDepth 20000 in
theorem ctX5_isCell (l : Launch) (g : kG) (A : Nat → Prop) (ws : va_W) {l0 : Int32} {Q : Int32 → Prop} (h : wX5_isCell l0 Q) : kCt l yX5_isCell cX5_isCell 1 (some .boolean) 1 65 0 0 g A [.int l0] ws (kTi ws Q) := by
  refine kCt.of (lv0 := [(0, .int l0)]) (by decide +kernel) (Nat.le_of_ble_eq_true rfl) rfl (fun z hl hg hA F R => ?_)
  subst hl hg hA
  have F : kF z cX5_isCell RX5 1 { frames := 1, cells := 0, slots := 0, locals := 65 } := F
  unfold wX5_isCell at h
  refine g_iload_n F dX5_isCell_0 0 rfl ?_
  refine g_i2l F dX5_isCell_1 ?_
  refine g_lconst (v := (0 : Int64)) F dX5_isCell_2 (by decide) ?_
  refine g_ldc2 (v := (11 : Int64)) F dX5_isCell_3 wq968 ?_
  refine rX5_X5_in F dX5_isCell_6 rfl h (fun r1 h => ?_)
  obtain ⟨hz, h⟩ := h
  exact g_zret F R (kBool hz) rfl rfl dX5_isCell_9 ⟨_, rfl, rfl, h⟩
theorem plX5_isWork : kPlain yX5_isWork 1 = true := by decide +kernel
theorem rX5_X5_isWork {z : kZ} {cc : ByteArray} {nL : Nat} {rm : Room} {c n pc : Nat} {lv : List (Nat × Value)} {st : List Value} {a : Nat → Nat} {E : va_W} {σ : kS} {l1 : Int32} {Q : Int32 → kS → Prop} (F : kF z cc RX5 nL rm) (hd : decode cc pc = .ok (.invokevirtual 86, 3)) (hf : kFits rm 1 65 0 0 2 c n st = true) (h : wX5_isWork l1 σ Q) (k : ∀ (v : Int32) (σ' : kS), Q v σ' → kV z (mW (zg z) a E σ') c n (pc + 3) lv (.int v :: st)) : kV z (mW (zg z) a E σ) c n pc lv (.int l1 :: .ref (a 0) :: st) := by
  exact g_callV F (av := [.int l1]) (ctX5_isWork _ _ _ a E h) (ci := 5) (q0 := 0) rfl rfl rfl wq969 wq971 wq42 wq114 wq972 plX5_isWork hd hf (fun r ws' hq => by
    obtain ⟨v, σ', rfl, rfl, hq⟩ := hq
    exact k v σ' hq)
theorem plX5_isCell : kPlain yX5_isCell 1 = true := by decide +kernel
theorem rX5_X5_isCell {z : kZ} {cc : ByteArray} {nL : Nat} {rm : Room} {c n pc : Nat} {lv : List (Nat × Value)} {st : List Value} {ws : va_W} {l0 : Int32} {Q : Int32 → Prop} (F : kF z cc RX5 nL rm) (hd : decode cc pc = .ok (.invokestatic 82, 3)) (hf : kFits rm 1 65 0 0 1 c n st = true) (h : wX5_isCell l0 Q) (k : ∀ v : Int32, Q v → kV z ws c n (pc + 3) lv (.int v :: st)) : kV z ws c n pc lv (.int l0 :: st) := g_callS F (av := [.int l0]) (ctX5_isCell _ _ _ ws h) wq965 wq966 wq114 wq967 plX5_isCell hd hf (fun r ws' hq => by
    obtain ⟨v, rfl, rfl, hq⟩ := hq
    exact k v hq)
set_option maxRecDepth 20000 in
theorem ctX5_isOf (l : Launch) (g : kG) (A : Nat → Prop) (a : Nat → Nat) (E : va_W) {l1 : Int32} {l2 : Int32} {σ : kS} {Q : Int32 → kS → Prop} (h : wX5_isOf l1 l2 σ Q) : kCt l yX5_isOf cX5_isOf 3 (some .boolean) 2 86 0 0 g A [.ref (a 0), .int l1, .int l2] (mW g a E σ) (kPi (mW g a E) Q) := by
  refine kCt.of (lv0 := [(0, .ref (a 0)), (1, .int l1), (2, .int l2)]) (by decide +kernel) (Nat.le_of_ble_eq_true rfl) rfl (fun z hl hg hA F R => ?_)
  subst hl hg hA
  have F : kF z cX5_isOf RX5 3 { frames := 2, cells := 0, slots := 0, locals := 86 } := F
  unfold wX5_isOf at h
  refine g_iload_n F dX5_isOf_0 1 rfl ?_
  refine g_iconst (v := (2 : Int32)) F dX5_isOf_1 (by decide) ?_
  refine g_icmp_lt F dX5_isOf_2 (tgt := 28) (by decide) (fun c1 => ?_) (fun c1 => ?_)
  · replace h := h.1 c1
    refine g_iconst (v := (1 : Int32)) F dX5_isOf_28 (by decide) ?_
    refine g_goto F dX5_isOf_29 (tgt := 33) (by decide) ?_
    exact g_zret F R rfl rfl rfl dX5_isOf_33 ⟨_, _, rfl, rfl, h⟩
  replace h := h.2 c1
  refine g_iload_n F dX5_isOf_5 1 rfl ?_
  refine g_iconst (v := (5 : Int32)) F dX5_isOf_6 (by decide) ?_
  refine g_icmp_ge F dX5_isOf_7 (tgt := 20) (by decide) (fun c2 => ?_) (fun c2 => ?_)
  · replace h := h.1 c2
    refine g_aload_n F dX5_isOf_20 0 rfl ?_
    refine g_iload_n F dX5_isOf_21 2 rfl ?_
    refine rX5_X5_isWork F dX5_isOf_22 rfl h (fun r4 s3 h => ?_)
    refine g_if_eq F dX5_isOf_25 (tgt := 32) (by decide) (fun c5 => ?_) (fun c5 => ?_)
    · replace h := h.1 c5
      refine g_iconst (v := (0 : Int32)) F dX5_isOf_32 (by decide) ?_
      exact g_zret F R rfl rfl rfl dX5_isOf_33 ⟨_, _, rfl, rfl, h⟩
    replace h := h.2 c5
    refine g_iconst (v := (1 : Int32)) F dX5_isOf_28 (by decide) ?_
    refine g_goto F dX5_isOf_29 (tgt := 33) (by decide) ?_
    exact g_zret F R rfl rfl rfl dX5_isOf_33 ⟨_, _, rfl, rfl, h⟩
  replace h := h.2 c2
  refine g_iload_n F dX5_isOf_10 2 rfl ?_
  refine rX5_X5_isCell F dX5_isOf_11 rfl h (fun r6 h => ?_)
  refine g_if_eq F dX5_isOf_14 (tgt := 32) (by decide) (fun c7 => ?_) (fun c7 => ?_)
  · replace h := h.1 c7
    refine g_iconst (v := (0 : Int32)) F dX5_isOf_32 (by decide) ?_
    exact g_zret F R rfl rfl rfl dX5_isOf_33 ⟨_, _, rfl, rfl, h⟩
  replace h := h.2 c7
  refine g_goto F dX5_isOf_17 (tgt := 28) (by decide) ?_
  refine g_iconst (v := (1 : Int32)) F dX5_isOf_28 (by decide) ?_
  refine g_goto F dX5_isOf_29 (tgt := 33) (by decide) ?_
  exact g_zret F R rfl rfl rfl dX5_isOf_33 ⟨_, _, rfl, rfl, h⟩
set_option maxRecDepth 20000 in
theorem ctX5_mostOf (l : Launch) (g : kG) (A : Nat → Prop) (ws : va_W) {l0 : Int32} {Q : Int32 → Prop} (h : wX5_mostOf l0 Q) : kCt l yX5_mostOf cX5_mostOf 1 (some .int) 0 40 0 0 g A [.int l0] ws (kTi ws Q) := by
  refine kCt.of (lv0 := [(0, .int l0)]) (by decide +kernel) (Nat.le_of_ble_eq_true rfl) rfl (fun z hl hg hA F R => ?_)
  subst hl hg hA
  have F : kF z cX5_mostOf RX5 1 { frames := 0, cells := 0, slots := 0, locals := 40 } := F
  unfold wX5_mostOf at h
  refine g_iload_n F dX5_mostOf_0 0 rfl ?_
  refine g_iconst (v := (5 : Int32)) F dX5_mostOf_1 (by decide) ?_
  refine g_icmp_ge F dX5_mostOf_2 (tgt := 30) (by decide) (fun c1 => ?_) (fun c1 => ?_)
  · replace h := h.1 c1
    refine g_iload_n F dX5_mostOf_30 0 rfl ?_
    refine g_iconst (v := (5 : Int32)) F dX5_mostOf_31 (by decide) ?_
    refine g_icmp_ne F dX5_mostOf_32 (tgt := 40) (by decide) (fun c2 => ?_) (fun c2 => ?_)
    · replace h := h.1 c2
      refine g_iload_n F dX5_mostOf_40 0 rfl ?_
      refine g_bipush (v := (6 : Int32)) F dX5_mostOf_41 (by decide) ?_
      refine g_icmp_ne F dX5_mostOf_43 (tgt := 51) (by decide) (fun c3 => ?_) (fun c3 => ?_)
      · replace h := h.1 c3
        refine g_iconst (v := (1 : Int32)) F dX5_mostOf_51 (by decide) ?_
        exact g_iret F R rfl rfl dX5_mostOf_52 ⟨_, rfl, rfl, h⟩
      replace h := h.2 c3
      refine g_bipush (v := (11 : Int32)) F dX5_mostOf_46 (by decide) ?_
      refine g_goto F dX5_mostOf_48 (tgt := 52) (by decide) ?_
      exact g_iret F R rfl rfl dX5_mostOf_52 ⟨_, rfl, rfl, h⟩
    replace h := h.2 c2
    refine g_bipush (v := (9 : Int32)) F dX5_mostOf_35 (by decide) ?_
    refine g_goto F dX5_mostOf_37 (tgt := 52) (by decide) ?_
    exact g_iret F R rfl rfl dX5_mostOf_52 ⟨_, rfl, rfl, h⟩
  replace h := h.2 c1
  refine g_iload_n F dX5_mostOf_5 0 rfl ?_
  refine g_iconst (v := (1 : Int32)) F dX5_mostOf_6 (by decide) ?_
  refine g_icmp_ne F dX5_mostOf_7 (tgt := 16) (by decide) (fun c4 => ?_) (fun c4 => ?_)
  · replace h := h.1 c4
    refine g_iload_n F dX5_mostOf_16 0 rfl ?_
    refine g_iconst (v := (4 : Int32)) F dX5_mostOf_17 (by decide) ?_
    refine g_icmp_ne F dX5_mostOf_18 (tgt := 27) (by decide) (fun c5 => ?_) (fun c5 => ?_)
    · replace h := h.1 c5
      refine g_bipush (v := (99 : Int32)) F dX5_mostOf_27 (by decide) ?_
      exact g_iret F R rfl rfl dX5_mostOf_29 ⟨_, rfl, rfl, h⟩
    replace h := h.2 c5
    refine g_sipush (v := (999 : Int32)) F dX5_mostOf_21 (by decide) ?_
    refine g_goto F dX5_mostOf_24 (tgt := 29) (by decide) ?_
    exact g_iret F R rfl rfl dX5_mostOf_29 ⟨_, rfl, rfl, h⟩
  replace h := h.2 c4
  refine g_sipush (v := (999 : Int32)) F dX5_mostOf_10 (by decide) ?_
  refine g_goto F dX5_mostOf_13 (tgt := 29) (by decide) ?_
  exact g_iret F R rfl rfl dX5_mostOf_29 ⟨_, rfl, rfl, h⟩
set_option maxRecDepth 20000 in
theorem sX5_drawsOf_108 {z : kZ} {a : Nat → Nat} {E : va_W}  {Q : Int32 → kS → Prop} {l5 : Int32} {ks0 : Int32} {σ : kS} (F : kF z cX5_drawsOf RX5 7 { frames := 0, cells := 0, slots := 0, locals := 40 }) (R : kR z (some .int) 0 0 (kPi (mW (zg z) a E) Q)) (h : wX5_drawsOf_108 Q l5 ks0 σ) : kV z (mW (zg z) a E σ) 0 0 108 [(5, .int l5)] [.int ks0] := by
  unfold wX5_drawsOf_108 at h
  refine g_istore (lv' := [(6, .int ks0), (5, .int l5)]) F dX5_drawsOf_108 rfl rfl ?_
  refine g_iload F dX5_drawsOf_110 0 rfl ?_
  refine g_iload F dX5_drawsOf_112 1 rfl ?_
  refine g_icmp_ge F dX5_drawsOf_114 (tgt := 122) (by decide) (fun c11 => ?_) (fun c11 => ?_)
  · replace h := h.1 c11
    refine g_iload F dX5_drawsOf_122 1 rfl ?_
    exact g_iret F R rfl rfl dX5_drawsOf_124 ⟨_, _, rfl, rfl, h⟩
  replace h := h.2 c11
  refine g_iload F dX5_drawsOf_117 0 rfl ?_
  refine g_goto F dX5_drawsOf_119 (tgt := 124) (by decide) ?_
  exact g_iret F R rfl rfl dX5_drawsOf_124 ⟨_, _, rfl, rfl, h⟩
set_option maxRecDepth 20000 in
theorem sX5_drawsOf_106 {z : kZ} {a : Nat → Nat} {E : va_W}  {Q : Int32 → kS → Prop} {l4 : Int32} {l5 : Int32} {σ : kS} (F : kF z cX5_drawsOf RX5 7 { frames := 0, cells := 0, slots := 0, locals := 40 }) (R : kR z (some .int) 0 0 (kPi (mW (zg z) a E) Q)) (h : wX5_drawsOf_106 Q l4 l5 σ) : kV z (mW (zg z) a E σ) 0 0 106 [(4, .int l4), (5, .int l5)] [] := by
  unfold wX5_drawsOf_106 at h
  refine g_iload F dX5_drawsOf_106 0 rfl ?_
  exact g_sub [1] rfl (sX5_drawsOf_108 F R h)
set_option maxRecDepth 20000 in
theorem sX5_drawsOf_51 {z : kZ} {a : Nat → Nat} {E : va_W}  {Q : Int32 → kS → Prop} {l2 : Int32} {l3 : Int32} {l4 : Int32} {l5 : Int32} {σ : kS} (F : kF z cX5_drawsOf RX5 7 { frames := 0, cells := 0, slots := 0, locals := 40 }) (R : kR z (some .int) 0 0 (kPi (mW (zg z) a E) Q)) (h : wX5_drawsOf_51 Q l2 l3 l4 l5 σ) : kV z (mW (zg z) a E σ) 0 0 51 [(0, .ref (a 0)), (2, .int l2), (3, .int l3), (4, .int l4), (5, .int l5)] [] := by
  unfold wX5_drawsOf_51 at h
  refine g_iload_n F dX5_drawsOf_51 2 rfl ?_
  refine g_iconst (v := (2 : Int32)) F dX5_drawsOf_52 (by decide) ?_
  refine g_icmp_ne F dX5_drawsOf_53 (tgt := 63) (by decide) (fun c7 => ?_) (fun c7 => ?_)
  · replace h := h.1 c7
    refine g_iload_n F dX5_drawsOf_63 2 rfl ?_
    refine g_iconst (v := (4 : Int32)) F dX5_drawsOf_64 (by decide) ?_
    refine g_icmp_ne F dX5_drawsOf_65 (tgt := 77) (by decide) (fun c8 => ?_) (fun c8 => ?_)
    · replace h := h.1 c8
      refine g_iload_n F dX5_drawsOf_77 2 rfl ?_
      refine g_if_eq F dX5_drawsOf_78 (tgt := 106) (by decide) (fun c9 => ?_) (fun c9 => ?_)
      · replace h := h.1 c9
        exact g_sub [3, 4] rfl (sX5_drawsOf_106 F R h)
      replace h := h.2 c9
      refine g_aload_n F dX5_drawsOf_81 0 rfl ?_
      refine rgX5_X5_fen F dX5_drawsOf_82 ?_
      refine g_iconst (v := (3 : Int32)) F dX5_drawsOf_85 (by decide) ?_
      refine g_iload_n F dX5_drawsOf_86 1 rfl ?_
      refine g_imul F dX5_drawsOf_87 ?_
      obtain ⟨hc, h⟩ := h
      refine g_iald (wf := mW (zg z) a E) F mA4 hc dX5_drawsOf_88 ?_
      refine g_aload_n F dX5_drawsOf_89 0 rfl ?_
      refine rgX5_X5_riverNow F dX5_drawsOf_90 ?_
      refine g_icmp_le F dX5_drawsOf_93 (tgt := 106) (by decide) (fun c10 => ?_) (fun c10 => ?_)
      · replace h := h.1 c10
        exact g_sub [3, 4] rfl (sX5_drawsOf_106 F R h)
      replace h := h.2 c10
      refine g_iload F dX5_drawsOf_96 3 rfl ?_
      refine g_iload F dX5_drawsOf_98 4 rfl ?_
      refine g_iconst (v := (2 : Int32)) F dX5_drawsOf_100 (by decide) ?_
      refine g_idiv F dX5_drawsOf_101 (by decide) ?_
      refine g_iadd F dX5_drawsOf_102 ?_
      refine g_goto F dX5_drawsOf_103 (tgt := 108) (by decide) ?_
      exact g_sub [4] rfl (sX5_drawsOf_108 F R h)
    replace h := h.2 c8
    refine g_iconst (v := (2 : Int32)) F dX5_drawsOf_68 (by decide) ?_
    refine g_iload F dX5_drawsOf_69 3 rfl ?_
    refine g_iconst (v := (5 : Int32)) F dX5_drawsOf_71 (by decide) ?_
    refine g_iadd F dX5_drawsOf_72 ?_
    refine g_imul F dX5_drawsOf_73 ?_
    refine g_goto F dX5_drawsOf_74 (tgt := 108) (by decide) ?_
    exact g_sub [4] rfl (sX5_drawsOf_108 F R h)
  replace h := h.2 c7
  refine g_iload F dX5_drawsOf_56 3 rfl ?_
  refine g_iconst (v := (5 : Int32)) F dX5_drawsOf_58 (by decide) ?_
  refine g_iadd F dX5_drawsOf_59 ?_
  refine g_goto F dX5_drawsOf_60 (tgt := 108) (by decide) ?_
  exact g_sub [4] rfl (sX5_drawsOf_108 F R h)
set_option maxRecDepth 20000 in
theorem ctX5_drawsOf (l : Launch) (g : kG) (A : Nat → Prop) (a : Nat → Nat) (E : va_W) {l1 : Int32} {l2 : Int32} {σ : kS} {Q : Int32 → kS → Prop} (h : wX5_drawsOf l1 l2 σ Q) : kCt l yX5_drawsOf cX5_drawsOf 7 (some .int) 0 40 0 0 g A [.ref (a 0), .int l1, .int l2] (mW g a E σ) (kPi (mW g a E) Q) := by
  refine kCt.of (lv0 := [(0, .ref (a 0)), (1, .int l1), (2, .int l2)]) (by decide +kernel) (Nat.le_of_ble_eq_true rfl) rfl (fun z hl hg hA F R => ?_)
  subst hl hg hA
  have F : kF z cX5_drawsOf RX5 7 { frames := 0, cells := 0, slots := 0, locals := 40 } := F
  unfold wX5_drawsOf at h
  refine g_aload_n F dX5_drawsOf_0 0 rfl ?_
  refine rgX5_X5_kinds F dX5_drawsOf_1 ?_
  refine g_iload_n F dX5_drawsOf_4 1 rfl ?_
  obtain ⟨hc, h⟩ := h
  refine g_iald (wf := mW (zg z) a E) F mA5 hc dX5_drawsOf_5 ?_
  refine g_topi (fun x1 ex1 => ?_)
  replace h := h x1 ex1
  refine g_istore_n (lv' := [(3, .int x1), (0, .ref (a 0)), (1, .int l1), (2, .int l2)]) F dX5_drawsOf_6 rfl rfl ?_
  refine g_aload_n F dX5_drawsOf_7 1 rfl ?_
  refine rgX5_X5_rows F dX5_drawsOf_8 ?_
  refine g_iconst (v := (3 : Int32)) F dX5_drawsOf_11 (by decide) ?_
  refine g_iload_n F dX5_drawsOf_12 2 rfl ?_
  refine g_imul F dX5_drawsOf_13 ?_
  obtain ⟨hc, h⟩ := h
  refine g_iald (wf := mW (zg z) a E) F mA6 hc dX5_drawsOf_14 ?_
  refine g_topi (fun x2 ex2 => ?_)
  replace h := h x2 ex2
  refine g_istore (lv' := [(4, .int x2), (3, .int x1), (0, .ref (a 0)), (1, .int l1), (2, .int l2)]) F dX5_drawsOf_15 rfl rfl ?_
  refine g_aload_n F dX5_drawsOf_17 2 rfl ?_
  refine rgX5_X5_fen F dX5_drawsOf_18 ?_
  refine g_iconst (v := (3 : Int32)) F dX5_drawsOf_21 (by decide) ?_
  refine g_iload_n F dX5_drawsOf_22 4 rfl ?_
  refine g_imul F dX5_drawsOf_23 ?_
  refine g_iconst (v := (2 : Int32)) F dX5_drawsOf_24 (by decide) ?_
  refine g_iadd F dX5_drawsOf_25 ?_
  obtain ⟨hc, h⟩ := h
  refine g_iald (wf := mW (zg z) a E) F mA4 hc dX5_drawsOf_26 ?_
  refine g_topi (fun x3 ex3 => ?_)
  replace h := h x3 ex3
  refine g_istore (lv' := [(5, .int x3), (4, .int x2), (3, .int x1), (0, .ref (a 0)), (1, .int l1), (2, .int l2)]) F dX5_drawsOf_27 rfl rfl ?_
  refine g_iload_n F dX5_drawsOf_29 2 rfl ?_
  refine g_iconst (v := (5 : Int32)) F dX5_drawsOf_30 (by decide) ?_
  refine g_icmp_eq F dX5_drawsOf_31 (tgt := 49) (by decide) (fun c4 => ?_) (fun c4 => ?_)
  · replace h := h.1 c4
    refine g_iconst (v := (0 : Int32)) F dX5_drawsOf_49 (by decide) ?_
    exact g_iret F R rfl rfl dX5_drawsOf_50 ⟨_, _, rfl, rfl, h⟩
  replace h := h.2 c4
  refine g_iload_n F dX5_drawsOf_34 2 rfl ?_
  refine g_iconst (v := (3 : Int32)) F dX5_drawsOf_35 (by decide) ?_
  refine g_icmp_ne F dX5_drawsOf_36 (tgt := 51) (by decide) (fun c5 => ?_) (fun c5 => ?_)
  · replace h := h.1 c5
    exact g_sub [3, 5, 2, 1, 0] rfl (sX5_drawsOf_51 F R h)
  replace h := h.2 c5
  refine g_aload_n F dX5_drawsOf_39 3 rfl ?_
  refine rgX5_X5_yearNow F dX5_drawsOf_40 ?_
  refine g_iconst (v := (3 : Int32)) F dX5_drawsOf_43 (by decide) ?_
  refine g_irem F dX5_drawsOf_44 (by decide) ?_
  refine g_iconst (v := (2 : Int32)) F dX5_drawsOf_45 (by decide) ?_
  refine g_icmp_ne F dX5_drawsOf_46 (tgt := 51) (by decide) (fun c6 => ?_) (fun c6 => ?_)
  · replace h := h.1 c6
    exact g_sub [3, 5, 2, 1, 0] rfl (sX5_drawsOf_51 F R h)
  replace h := h.2 c6
  refine g_iconst (v := (0 : Int32)) F dX5_drawsOf_49 (by decide) ?_
  exact g_iret F R rfl rfl dX5_drawsOf_50 ⟨_, _, rfl, rfl, h⟩
set_option maxRecDepth 20000 in
theorem ctX5_byteAt (l : Launch) (g : kG) (A : Nat → Prop) (a : Nat → Nat) (E : va_W) {l1 : Int32} {σ : kS} {Q : Int32 → kS → Prop} (h : wX5_byteAt l1 σ Q) : kCt l yX5_byteAt cX5_byteAt 2 (some .int) 0 40 0 0 g A [.ref (a 0), .int l1] (mW g a E σ) (kPi (mW g a E) Q) := by
  refine kCt.of (lv0 := [(0, .ref (a 0)), (1, .int l1)]) (by decide +kernel) (Nat.le_of_ble_eq_true rfl) rfl (fun z hl hg hA F R => ?_)
  subst hl hg hA
  have F : kF z cX5_byteAt RX5 2 { frames := 0, cells := 0, slots := 0, locals := 40 } := F
  unfold wX5_byteAt at h
  refine g_iload_n F dX5_byteAt_0 1 rfl ?_
  refine g_aload_n F dX5_byteAt_1 0 rfl ?_
  refine rgX5_X5_size F dX5_byteAt_2 ?_
  refine g_icmp_ge F dX5_byteAt_5 (tgt := 22) (by decide) (fun c1 => ?_) (fun c1 => ?_)
  · replace h := h.1 c1
    refine g_iconst (v := (-1 : Int32)) F dX5_byteAt_22 (by decide) ?_
    exact g_iret F R rfl rfl dX5_byteAt_23 ⟨_, _, rfl, rfl, h⟩
  replace h := h.2 c1
  refine g_aload_n F dX5_byteAt_8 0 rfl ?_
  refine rgX5_X5_texts F dX5_byteAt_9 ?_
  refine g_aload_n F dX5_byteAt_12 0 rfl ?_
  refine rgX5_X5_from F dX5_byteAt_13 ?_
  refine g_iload_n F dX5_byteAt_16 1 rfl ?_
  refine g_iadd F dX5_byteAt_17 ?_
  obtain ⟨hc, h⟩ := h
  refine g_iald (wf := mW (zg z) a E) F mA1 hc dX5_byteAt_18 ?_
  refine g_goto F dX5_byteAt_19 (tgt := 23) (by decide) ?_
  exact g_iret F R rfl rfl dX5_byteAt_23 ⟨_, _, rfl, rfl, h⟩
theorem plX5_byteAt : kPlain yX5_byteAt 1 = true := by decide +kernel
theorem rX5_X5_byteAt {z : kZ} {cc : ByteArray} {nL : Nat} {rm : Room} {c n pc : Nat} {lv : List (Nat × Value)} {st : List Value} {a : Nat → Nat} {E : va_W} {σ : kS} {l1 : Int32} {Q : Int32 → kS → Prop} (F : kF z cc RX5 nL rm) (hd : decode cc pc = .ok (.invokevirtual 142, 3)) (hf : kFits rm 0 40 0 0 2 c n st = true) (h : wX5_byteAt l1 σ Q) (k : ∀ (v : Int32) (σ' : kS), Q v σ' → kV z (mW (zg z) a E σ') c n (pc + 3) lv (.int v :: st)) : kV z (mW (zg z) a E σ) c n pc lv (.int l1 :: .ref (a 0) :: st) := by
  exact g_callV F (av := [.int l1]) (ctX5_byteAt _ _ _ a E h) (ci := 5) (q0 := 0) rfl rfl rfl wq1001 wq1003 wq48 wq114 wq1004 plX5_byteAt hd hf (fun r ws' hq => by
    obtain ⟨v, σ', rfl, rfl, hq⟩ := hq
    exact k v σ' hq)
set_option maxRecDepth 20000 in
theorem sX5_next_26 {z : kZ} {a : Nat → Nat} {E : va_W}  {Q : kS → Prop} {P0 : kS → Prop} {σ : kS} (F : kF z cX5_next RX5 3 { frames := 1, cells := 0, slots := 0, locals := 65 }) (R : kR z none 0 0 (kPv (mW (zg z) a E) Q)) (hP0 : ∀ (σ : kS), P0 σ → kV z (mW (zg z) a E σ) 0 0 0 [(0, .ref (a 0))] []) (h : wX5_next_26 Q P0 σ) : kV z (mW (zg z) a E σ) 0 0 26 [(0, .ref (a 0))] [] := by
  unfold wX5_next_26 at h
  refine g_aload_n F dX5_next_26 0 rfl ?_
  refine g_dup F dX5_next_27 rfl ?_
  refine rgX5_X5_here F dX5_next_28 ?_
  refine g_iconst (v := (1 : Int32)) F dX5_next_31 (by decide) ?_
  refine g_iadd F dX5_next_32 ?_
  refine rpX5_X5_here F dX5_next_33 ?_
  refine g_name (wf := mW (zg z) a E) (fun s29 es29 => ?_)
  replace h := h s29 es29
  refine g_goto F dX5_next_36 (tgt := 0) (by decide) ?_
  exact (hP0 _ h)
set_option maxRecDepth 20000 in
theorem sX5_next_100 {z : kZ} {a : Nat → Nat} {E : va_W}  {Q : kS → Prop} {σ : kS} (F : kF z cX5_next RX5 3 { frames := 1, cells := 0, slots := 0, locals := 65 }) (R : kR z none 0 0 (kPv (mW (zg z) a E) Q)) (h : wX5_next_100 Q σ) : kV z (mW (zg z) a E σ) 0 0 100 [(0, .ref (a 0))] [] := by
  unfold wX5_next_100 at h
  refine h (fun σ => kV z (mW (zg z) a E σ) 0 0 100 [(0, .ref (a 0))] []) (fun σ h => ?_)
  refine g_aload_n F dX5_next_100 0 rfl ?_
  refine g_aload_n F dX5_next_101 0 rfl ?_
  refine rgX5_X5_here F dX5_next_102 ?_
  refine rX5_X5_byteAt F dX5_next_105 rfl h (fun r42 s41 h => ?_)
  refine g_i2l F dX5_next_108 ?_
  refine g_ldc2 (v := (97 : Int64)) F dX5_next_109 wq1005 ?_
  refine g_ldc2 (v := (122 : Int64)) F dX5_next_112 wq1006 ?_
  refine rX5_X5_in F dX5_next_115 rfl h (fun r43 h => ?_)
  refine g_if_eq F dX5_next_118 (tgt := 321) (by decide) (fun c44 => ?_) (fun c44 => ?_)
  · replace h := h.1 c44
    exact g_vret F R rfl rfl dX5_next_321 ⟨_, rfl, rfl, h⟩
  replace h := h.2 c44
  refine g_aload_n F dX5_next_121 0 rfl ?_
  refine g_dup F dX5_next_122 rfl ?_
  refine rgX5_X5_here F dX5_next_123 ?_
  refine g_iconst (v := (1 : Int32)) F dX5_next_126 (by decide) ?_
  refine g_iadd F dX5_next_127 ?_
  refine rpX5_X5_here F dX5_next_128 ?_
  refine g_name (wf := mW (zg z) a E) (fun s45 es45 => ?_)
  replace h := h s45 es45
  refine g_goto F dX5_next_131 (tgt := 100) (by decide) ?_
  exact h
set_option maxRecDepth 20000 in
theorem sX5_next_216 {z : kZ} {a : Nat → Nat} {E : va_W}  {Q : kS → Prop} {P160 : kS → Int32 → Prop} {l2 : Int32} {ks0 : Int64} {σ : kS} (F : kF z cX5_next RX5 3 { frames := 1, cells := 0, slots := 0, locals := 65 }) (R : kR z none 0 0 (kPv (mW (zg z) a E) Q)) (hP160 : ∀ (σ : kS) (l2 : Int32), P160 σ l2 → kV z (mW (zg z) a E σ) 0 0 160 [(0, .ref (a 0)), (2, .int l2)] []) (h : wX5_next_216 Q P160 l2 ks0 σ) : kV z (mW (zg z) a E σ) 0 0 216 [(0, .ref (a 0)), (2, .int l2)] [.long ks0, .ref (a 0)] := by
  unfold wX5_next_216 at h
  refine rpX5_X5_tokenWorth F dX5_next_216 ?_
  refine g_name (wf := mW (zg z) a E) (fun s47 es47 => ?_)
  replace h := h s47 es47
  obtain ⟨x48, ex48⟩ : ∃ q : Int32, q = l2 + (1 : Int32) := ⟨_, rfl⟩
  replace h := h x48 ex48
  refine g_iinc (lv' := [(2, .int x48), (0, .ref (a 0))]) (d := (1 : Int32)) F dX5_next_219 rfl 1 rfl (by decide) ex48.symm rfl ?_
  refine g_aload_n F dX5_next_222 1 rfl ?_
  refine g_dup F dX5_next_223 rfl ?_
  refine rgX5_X5_here F dX5_next_224 ?_
  refine g_iconst (v := (1 : Int32)) F dX5_next_227 (by decide) ?_
  refine g_iadd F dX5_next_228 ?_
  refine rpX5_X5_here F dX5_next_229 ?_
  refine g_name (wf := mW (zg z) a E) (fun s49 es49 => ?_)
  replace h := h s49 es49
  refine g_goto F dX5_next_232 (tgt := 160) (by decide) ?_
  exact g_sub [1, 0] rfl (hP160 _ _ h)
set_option maxRecDepth 20000 in
theorem sX5_next_246 {z : kZ} {a : Nat → Nat} {E : va_W}  {Q : kS → Prop} {ks0 : Int32} {σ : kS} (F : kF z cX5_next RX5 3 { frames := 1, cells := 0, slots := 0, locals := 65 }) (R : kR z none 0 0 (kPv (mW (zg z) a E) Q)) (h : wX5_next_246 Q ks0 σ) : kV z (mW (zg z) a E σ) 0 0 246 [] [.int ks0, .ref (a 0)] := by
  unfold wX5_next_246 at h
  refine rpX5_X5_token F dX5_next_246 ?_
  refine g_name (wf := mW (zg z) a E) (fun s46 es46 => ?_)
  replace h := h s46 es46
  refine g_goto F dX5_next_249 (tgt := 321) (by decide) ?_
  exact g_vret F R rfl rfl dX5_next_321 ⟨_, rfl, rfl, h⟩
set_option maxRecDepth 20000 in
theorem sX5_next_160 {z : kZ} {a : Nat → Nat} {E : va_W}  {Q : kS → Prop} {l2 : Int32} {σ : kS} (F : kF z cX5_next RX5 3 { frames := 1, cells := 0, slots := 0, locals := 65 }) (R : kR z none 0 0 (kPv (mW (zg z) a E) Q)) (h : wX5_next_160 Q l2 σ) : kV z (mW (zg z) a E σ) 0 0 160 [(0, .ref (a 0)), (2, .int l2)] [] := by
  unfold wX5_next_160 at h
  refine h (fun σ l2 => kV z (mW (zg z) a E σ) 0 0 160 [(0, .ref (a 0)), (2, .int l2)] []) (fun σ l2 h => ?_)
  refine g_aload_n F dX5_next_160 0 rfl ?_
  refine g_aload_n F dX5_next_161 0 rfl ?_
  refine rgX5_X5_here F dX5_next_162 ?_
  refine rX5_X5_byteAt F dX5_next_165 rfl h (fun r34 s33 h => ?_)
  refine g_i2l F dX5_next_168 ?_
  refine g_ldc2 (v := (48 : Int64)) F dX5_next_169 wq1007 ?_
  refine g_ldc2 (v := (57 : Int64)) F dX5_next_172 wq1008 ?_
  refine rX5_X5_in F dX5_next_175 rfl h (fun r35 h => ?_)
  refine g_if_eq F dX5_next_178 (tgt := 235) (by decide) (fun c36 => ?_) (fun c36 => ?_)
  · replace h := h.1 c36
    refine g_aload_n F dX5_next_235 0 rfl ?_
    refine g_iload_n F dX5_next_236 1 rfl ?_
    refine g_iconst (v := (4 : Int32)) F dX5_next_237 (by decide) ?_
    refine g_icmp_le F dX5_next_238 (tgt := 245) (by decide) (fun c37 => ?_) (fun c37 => ?_)
    · replace h := h.1 c37
      refine g_iconst (v := (2 : Int32)) F dX5_next_245 (by decide) ?_
      exact g_sub [] rfl (sX5_next_246 F R h)
    replace h := h.2 c37
    refine g_iconst (v := (4 : Int32)) F dX5_next_241 (by decide) ?_
    refine g_goto F dX5_next_242 (tgt := 246) (by decide) ?_
    exact g_sub [] rfl (sX5_next_246 F R h)
  replace h := h.2 c36
  refine g_aload_n F dX5_next_181 0 rfl ?_
  refine g_iload_n F dX5_next_182 1 rfl ?_
  refine g_iconst (v := (4 : Int32)) F dX5_next_183 (by decide) ?_
  refine g_icmp_ge F dX5_next_184 (tgt := 212) (by decide) (fun c38 => ?_) (fun c38 => ?_)
  · replace h := h.1 c38
    refine g_aload_n F dX5_next_212 0 rfl ?_
    refine rgX5_X5_tokenWorth F dX5_next_213 ?_
    exact (sX5_next_216 F R (fun _ _ h => h) h)
  replace h := h.2 c38
  refine g_ldc2 (v := (10 : Int64)) F dX5_next_187 wq980 ?_
  refine g_aload_n F dX5_next_190 0 rfl ?_
  refine rgX5_X5_tokenWorth F dX5_next_191 ?_
  refine g_lmul F dX5_next_194 ?_
  refine g_aload_n F dX5_next_195 0 rfl ?_
  refine g_aload_n F dX5_next_196 0 rfl ?_
  refine rgX5_X5_here F dX5_next_197 ?_
  refine rX5_X5_byteAt F dX5_next_200 rfl h (fun r40 s39 h => ?_)
  refine g_i2l F dX5_next_203 ?_
  refine g_ladd F dX5_next_204 ?_
  refine g_ldc2 (v := (48 : Int64)) F dX5_next_205 wq1007 ?_
  refine g_lsub F dX5_next_208 ?_
  refine g_goto F dX5_next_209 (tgt := 216) (by decide) ?_
  exact (sX5_next_216 F R (fun _ _ h => h) h)
set_option maxRecDepth 20000 in
theorem sX5_next_300 {z : kZ} {a : Nat → Nat} {E : va_W}  {Q : kS → Prop} {l1 : Int32} {σ : kS} (F : kF z cX5_next RX5 3 { frames := 1, cells := 0, slots := 0, locals := 65 }) (R : kR z none 0 0 (kPv (mW (zg z) a E) Q)) (h : wX5_next_300 Q l1 σ) : kV z (mW (zg z) a E σ) 0 0 300 [(0, .ref (a 0)), (1, .int l1)] [] := by
  unfold wX5_next_300 at h
  refine g_aload_n F dX5_next_300 0 rfl ?_
  refine g_iconst (v := (3 : Int32)) F dX5_next_301 (by decide) ?_
  refine rpX5_X5_token F dX5_next_302 ?_
  refine g_name (wf := mW (zg z) a E) (fun s30 es30 => ?_)
  replace h := h s30 es30
  refine g_aload_n F dX5_next_305 0 rfl ?_
  refine g_iload_n F dX5_next_306 1 rfl ?_
  refine g_i2l F dX5_next_307 ?_
  refine rpX5_X5_tokenWorth F dX5_next_308 ?_
  refine g_name (wf := mW (zg z) a E) (fun s31 es31 => ?_)
  replace h := h s31 es31
  refine g_aload_n F dX5_next_311 0 rfl ?_
  refine g_dup F dX5_next_312 rfl ?_
  refine rgX5_X5_here F dX5_next_313 ?_
  refine g_iconst (v := (1 : Int32)) F dX5_next_316 (by decide) ?_
  refine g_iadd F dX5_next_317 ?_
  refine rpX5_X5_here F dX5_next_318 ?_
  refine g_name (wf := mW (zg z) a E) (fun s32 es32 => ?_)
  replace h := h s32 es32
  exact g_vret F R rfl rfl dX5_next_321 ⟨_, rfl, rfl, h⟩
set_option maxRecDepth 20000 in
theorem sX5_next_0 {z : kZ} {a : Nat → Nat} {E : va_W}  {Q : kS → Prop} {σ : kS} (F : kF z cX5_next RX5 3 { frames := 1, cells := 0, slots := 0, locals := 65 }) (R : kR z none 0 0 (kPv (mW (zg z) a E) Q)) (h : wX5_next_0 Q σ) : kV z (mW (zg z) a E σ) 0 0 0 [(0, .ref (a 0))] [] := by
  unfold wX5_next_0 at h
  refine h (fun σ => kV z (mW (zg z) a E σ) 0 0 0 [(0, .ref (a 0))] []) (fun σ h => ?_)
  refine g_aload_n F dX5_next_0 0 rfl ?_
  refine g_aload_n F dX5_next_1 0 rfl ?_
  refine rgX5_X5_here F dX5_next_2 ?_
  refine rX5_X5_byteAt F dX5_next_5 rfl h (fun r2 s1 h => ?_)
  refine g_bipush (v := (32 : Int32)) F dX5_next_8 (by decide) ?_
  refine g_icmp_eq F dX5_next_10 (tgt := 26) (by decide) (fun c3 => ?_) (fun c3 => ?_)
  · replace h := h.1 c3
    exact (sX5_next_26 F R (fun _ h => h) h)
  replace h := h.2 c3
  refine g_aload_n F dX5_next_13 0 rfl ?_
  refine g_aload_n F dX5_next_14 0 rfl ?_
  refine rgX5_X5_here F dX5_next_15 ?_
  refine rX5_X5_byteAt F dX5_next_18 rfl h (fun r5 s4 h => ?_)
  refine g_bipush (v := (10 : Int32)) F dX5_next_21 (by decide) ?_
  refine g_icmp_ne F dX5_next_23 (tgt := 39) (by decide) (fun c6 => ?_) (fun c6 => ?_)
  · replace h := h.1 c6
    refine g_aload_n F dX5_next_39 0 rfl ?_
    refine g_aload_n F dX5_next_40 0 rfl ?_
    refine rgX5_X5_here F dX5_next_41 ?_
    refine rpX5_X5_tokenAt F dX5_next_44 ?_
    refine g_name (wf := mW (zg z) a E) (fun s7 es7 => ?_)
    replace h := h s7 es7
    refine g_aload_n F dX5_next_47 0 rfl ?_
    refine g_aload_n F dX5_next_48 0 rfl ?_
    refine rgX5_X5_here F dX5_next_49 ?_
    refine rX5_X5_byteAt F dX5_next_52 rfl h (fun r9 s8 h => ?_)
    refine g_istore_n (lv' := [(1, .int r9), (0, .ref (a 0))]) F dX5_next_55 rfl rfl ?_
    refine g_aload_n F dX5_next_56 1 rfl ?_
    refine g_iconst (v := (4 : Int32)) F dX5_next_57 (by decide) ?_
    refine rpX5_X5_token F dX5_next_58 ?_
    refine g_name (wf := mW (zg z) a E) (fun s10 es10 => ?_)
    replace h := h s10 es10
    refine g_iload_n F dX5_next_61 0 rfl ?_
    refine g_if_ge F dX5_next_62 (tgt := 81) (by decide) (fun c11 => ?_) (fun c11 => ?_)
    · replace h := h.1 c11
      refine g_iload_n F dX5_next_81 0 rfl ?_
      refine g_i2l F dX5_next_82 ?_
      refine g_ldc2 (v := (97 : Int64)) F dX5_next_83 wq1005 ?_
      refine g_ldc2 (v := (122 : Int64)) F dX5_next_86 wq1006 ?_
      refine rX5_X5_in F dX5_next_89 rfl h (fun r12 h => ?_)
      refine g_if_eq F dX5_next_92 (tgt := 134) (by decide) (fun c13 => ?_) (fun c13 => ?_)
      · replace h := h.1 c13
        refine g_iload_n F dX5_next_134 0 rfl ?_
        refine g_i2l F dX5_next_135 ?_
        refine g_ldc2 (v := (48 : Int64)) F dX5_next_136 wq1007 ?_
        refine g_ldc2 (v := (57 : Int64)) F dX5_next_139 wq1008 ?_
        refine rX5_X5_in F dX5_next_142 rfl h (fun r14 h => ?_)
        refine g_if_eq F dX5_next_145 (tgt := 252) (by decide) (fun c15 => ?_) (fun c15 => ?_)
        · replace h := h.1 c15
          refine g_iload_n F dX5_next_252 0 rfl ?_
          refine g_bipush (v := (40 : Int32)) F dX5_next_253 (by decide) ?_
          refine g_icmp_eq F dX5_next_255 (tgt := 300) (by decide) (fun c16 => ?_) (fun c16 => ?_)
          · replace h := h.1 c16
            exact g_sub [1, 0] rfl (sX5_next_300 F R h)
          replace h := h.2 c16
          refine g_iload_n F dX5_next_258 0 rfl ?_
          refine g_bipush (v := (41 : Int32)) F dX5_next_259 (by decide) ?_
          refine g_icmp_eq F dX5_next_261 (tgt := 300) (by decide) (fun c17 => ?_) (fun c17 => ?_)
          · replace h := h.1 c17
            exact g_sub [1, 0] rfl (sX5_next_300 F R h)
          replace h := h.2 c17
          refine g_iload_n F dX5_next_264 0 rfl ?_
          refine g_bipush (v := (59 : Int32)) F dX5_next_265 (by decide) ?_
          refine g_icmp_eq F dX5_next_267 (tgt := 300) (by decide) (fun c18 => ?_) (fun c18 => ?_)
          · replace h := h.1 c18
            exact g_sub [1, 0] rfl (sX5_next_300 F R h)
          replace h := h.2 c18
          refine g_iload_n F dX5_next_270 0 rfl ?_
          refine g_bipush (v := (43 : Int32)) F dX5_next_271 (by decide) ?_
          refine g_icmp_eq F dX5_next_273 (tgt := 300) (by decide) (fun c19 => ?_) (fun c19 => ?_)
          · replace h := h.1 c19
            exact g_sub [1, 0] rfl (sX5_next_300 F R h)
          replace h := h.2 c19
          refine g_iload_n F dX5_next_276 0 rfl ?_
          refine g_bipush (v := (45 : Int32)) F dX5_next_277 (by decide) ?_
          refine g_icmp_eq F dX5_next_279 (tgt := 300) (by decide) (fun c20 => ?_) (fun c20 => ?_)
          · replace h := h.1 c20
            exact g_sub [1, 0] rfl (sX5_next_300 F R h)
          replace h := h.2 c20
          refine g_iload_n F dX5_next_282 0 rfl ?_
          refine g_bipush (v := (42 : Int32)) F dX5_next_283 (by decide) ?_
          refine g_icmp_eq F dX5_next_285 (tgt := 300) (by decide) (fun c21 => ?_) (fun c21 => ?_)
          · replace h := h.1 c21
            exact g_sub [1, 0] rfl (sX5_next_300 F R h)
          replace h := h.2 c21
          refine g_iload_n F dX5_next_288 0 rfl ?_
          refine g_bipush (v := (60 : Int32)) F dX5_next_289 (by decide) ?_
          refine g_icmp_eq F dX5_next_291 (tgt := 300) (by decide) (fun c22 => ?_) (fun c22 => ?_)
          · replace h := h.1 c22
            exact g_sub [1, 0] rfl (sX5_next_300 F R h)
          replace h := h.2 c22
          refine g_iload_n F dX5_next_294 0 rfl ?_
          refine g_bipush (v := (61 : Int32)) F dX5_next_295 (by decide) ?_
          refine g_icmp_ne F dX5_next_297 (tgt := 321) (by decide) (fun c23 => ?_) (fun c23 => ?_)
          · replace h := h.1 c23
            exact g_vret F R rfl rfl dX5_next_321 ⟨_, rfl, rfl, h⟩
          replace h := h.2 c23
          exact g_sub [1, 0] rfl (sX5_next_300 F R h)
        replace h := h.2 c15
        refine g_aload_n F dX5_next_148 1 rfl ?_
        refine g_iconst (v := (2 : Int32)) F dX5_next_149 (by decide) ?_
        refine rpX5_X5_token F dX5_next_150 ?_
        refine g_name (wf := mW (zg z) a E) (fun s24 es24 => ?_)
        replace h := h s24 es24
        refine g_aload_n F dX5_next_153 1 rfl ?_
        refine g_lconst (v := (0 : Int64)) F dX5_next_154 (by decide) ?_
        refine rpX5_X5_tokenWorth F dX5_next_155 ?_
        refine g_name (wf := mW (zg z) a E) (fun s25 es25 => ?_)
        replace h := h s25 es25
        refine g_iconst (v := (0 : Int32)) F dX5_next_158 (by decide) ?_
        refine g_istore_n (lv' := [(2, .int (0 : Int32)), (1, .int r9), (0, .ref (a 0))]) F dX5_next_159 rfl rfl ?_
        exact g_sub [2, 0] rfl (sX5_next_160 F R h)
      replace h := h.2 c13
      refine g_aload_n F dX5_next_95 1 rfl ?_
      refine g_iconst (v := (1 : Int32)) F dX5_next_96 (by decide) ?_
      refine rpX5_X5_token F dX5_next_97 ?_
      refine g_name (wf := mW (zg z) a E) (fun s26 es26 => ?_)
      replace h := h s26 es26
      exact g_sub [1] rfl (sX5_next_100 F R h)
    replace h := h.2 c11
    refine g_aload_n F dX5_next_65 1 rfl ?_
    refine g_iconst (v := (0 : Int32)) F dX5_next_66 (by decide) ?_
    refine rpX5_X5_token F dX5_next_67 ?_
    refine g_name (wf := mW (zg z) a E) (fun s27 es27 => ?_)
    replace h := h s27 es27
    refine g_aload_n F dX5_next_70 1 rfl ?_
    refine g_aload_n F dX5_next_71 1 rfl ?_
    refine rgX5_X5_size F dX5_next_72 ?_
    refine rpX5_X5_tokenAt F dX5_next_75 ?_
    refine g_name (wf := mW (zg z) a E) (fun s28 es28 => ?_)
    replace h := h s28 es28
    refine g_goto F dX5_next_78 (tgt := 321) (by decide) ?_
    exact g_vret F R rfl rfl dX5_next_321 ⟨_, rfl, rfl, h⟩
  replace h := h.2 c6
  exact (sX5_next_26 F R (fun _ h => h) h)
set_option maxRecDepth 20000 in
theorem ctX5_next (l : Launch) (g : kG) (A : Nat → Prop) (a : Nat → Nat) (E : va_W) {σ : kS} {Q : kS → Prop} (h : wX5_next σ Q) : kCt l yX5_next cX5_next 3 none 1 65 0 0 g A [.ref (a 0)] (mW g a E σ) (kPv (mW g a E) Q) := by
  refine kCt.of (lv0 := [(0, .ref (a 0))]) (by decide +kernel) (Nat.le_of_ble_eq_true rfl) rfl (fun z hl hg hA F R => ?_)
  subst hl hg hA
  have F : kF z cX5_next RX5 3 { frames := 1, cells := 0, slots := 0, locals := 65 } := F
  unfold wX5_next at h
  exact (sX5_next_0 F R h)
set_option maxRecDepth 20000 in
theorem ctX5_isLetter (l : Launch) (g : kG) (A : Nat → Prop) (a : Nat → Nat) (E : va_W) {l1 : Int32} {l2 : Int32} {σ : kS} {Q : Int32 → kS → Prop} (h : wX5_isLetter l1 l2 σ Q) : kCt l yX5_isLetter cX5_isLetter 3 (some .boolean) 1 61 0 0 g A [.ref (a 0), .int l1, .int l2] (mW g a E σ) (kPi (mW g a E) Q) := by
  refine kCt.of (lv0 := [(0, .ref (a 0)), (1, .int l1), (2, .int l2)]) (by decide +kernel) (Nat.le_of_ble_eq_true rfl) rfl (fun z hl hg hA F R => ?_)
  subst hl hg hA
  have F : kF z cX5_isLetter RX5 3 { frames := 1, cells := 0, slots := 0, locals := 61 } := F
  unfold wX5_isLetter at h
  refine g_aload_n F dX5_isLetter_0 0 rfl ?_
  refine rgX5_X5_tokenAt F dX5_isLetter_1 ?_
  refine g_iload_n F dX5_isLetter_4 1 rfl ?_
  refine g_iadd F dX5_isLetter_5 ?_
  refine g_aload_n F dX5_isLetter_6 0 rfl ?_
  refine rgX5_X5_here F dX5_isLetter_7 ?_
  refine g_icmp_ge F dX5_isLetter_10 (tgt := 35) (by decide) (fun c1 => ?_) (fun c1 => ?_)
  · replace h := h.1 c1
    refine g_iload_n F dX5_isLetter_35 2 rfl ?_
    refine g_if_ne F dX5_isLetter_36 (tgt := 43) (by decide) (fun c2 => ?_) (fun c2 => ?_)
    · replace h := h.1 c2
      refine g_iconst (v := (0 : Int32)) F dX5_isLetter_43 (by decide) ?_
      exact g_zret F R rfl rfl rfl dX5_isLetter_44 ⟨_, _, rfl, rfl, h⟩
    replace h := h.2 c2
    refine g_iconst (v := (1 : Int32)) F dX5_isLetter_39 (by decide) ?_
    refine g_goto F dX5_isLetter_40 (tgt := 44) (by decide) ?_
    exact g_zret F R rfl rfl rfl dX5_isLetter_44 ⟨_, _, rfl, rfl, h⟩
  replace h := h.2 c1
  refine g_aload_n F dX5_isLetter_13 0 rfl ?_
  refine g_aload_n F dX5_isLetter_14 0 rfl ?_
  refine rgX5_X5_tokenAt F dX5_isLetter_15 ?_
  refine g_iload_n F dX5_isLetter_18 1 rfl ?_
  refine g_iadd F dX5_isLetter_19 ?_
  refine rX5_X5_byteAt F dX5_isLetter_20 rfl h (fun r4 s3 h => ?_)
  refine g_iload_n F dX5_isLetter_23 2 rfl ?_
  refine g_icmp_ne F dX5_isLetter_24 (tgt := 31) (by decide) (fun c5 => ?_) (fun c5 => ?_)
  · replace h := h.1 c5
    refine g_iconst (v := (0 : Int32)) F dX5_isLetter_31 (by decide) ?_
    refine g_goto F dX5_isLetter_32 (tgt := 44) (by decide) ?_
    exact g_zret F R rfl rfl rfl dX5_isLetter_44 ⟨_, _, rfl, rfl, h⟩
  replace h := h.2 c5
  refine g_iconst (v := (1 : Int32)) F dX5_isLetter_27 (by decide) ?_
  refine g_goto F dX5_isLetter_28 (tgt := 44) (by decide) ?_
  exact g_zret F R rfl rfl rfl dX5_isLetter_44 ⟨_, _, rfl, rfl, h⟩
theorem plX5_isLetter : kPlain yX5_isLetter 2 = true := by decide +kernel
theorem rX5_X5_isLetter {z : kZ} {cc : ByteArray} {nL : Nat} {rm : Room} {c n pc : Nat} {lv : List (Nat × Value)} {st : List Value} {a : Nat → Nat} {E : va_W} {σ : kS} {l1 : Int32} {l2 : Int32} {Q : Int32 → kS → Prop} (F : kF z cc RX5 nL rm) (hd : decode cc pc = .ok (.invokevirtual 170, 3)) (hf : kFits rm 1 61 0 0 3 c n st = true) (h : wX5_isLetter l1 l2 σ Q) (k : ∀ (v : Int32) (σ' : kS), Q v σ' → kV z (mW (zg z) a E σ') c n (pc + 3) lv (.int v :: st)) : kV z (mW (zg z) a E σ) c n pc lv (.int l2 :: .int l1 :: .ref (a 0) :: st) := by
  exact g_callV F (av := [.int l1, .int l2]) (ctX5_isLetter _ _ _ a E h) (ci := 5) (q0 := 0) rfl rfl rfl wq1013 wq1015 wq50 wq114 wq1016 plX5_isLetter hd hf (fun r ws' hq => by
    obtain ⟨v, σ', rfl, rfl, hq⟩ := hq
    exact k v σ' hq)
set_option maxRecDepth 20000 in
theorem ctX5_isWord (l : Launch) (g : kG) (A : Nat → Prop) (a : Nat → Nat) (E : va_W) {l1 : Int32} {l2 : Int32} {l3 : Int32} {l4 : Int32} {l5 : Int32} {l6 : Int32} {l7 : Int32} {l8 : Int32} {σ : kS} {Q : Int32 → kS → Prop} (h : wX5_isWord l1 l2 l3 l4 l5 l6 l7 l8 σ Q) : kCt l yX5_isWord cX5_isWord 9 (some .boolean) 2 83 0 0 g A [.ref (a 0), .int l1, .int l2, .int l3, .int l4, .int l5, .int l6, .int l7, .int l8] (mW g a E σ) (kPi (mW g a E) Q) := by
  refine kCt.of (lv0 := [(0, .ref (a 0)), (1, .int l1), (2, .int l2), (3, .int l3), (4, .int l4), (5, .int l5), (6, .int l6), (7, .int l7), (8, .int l8)]) (by decide +kernel) (Nat.le_of_ble_eq_true rfl) rfl (fun z hl hg hA F R => ?_)
  subst hl hg hA
  have F : kF z cX5_isWord RX5 9 { frames := 2, cells := 0, slots := 0, locals := 83 } := F
  unfold wX5_isWord at h
  refine g_aload_n F dX5_isWord_0 0 rfl ?_
  refine rgX5_X5_bad F dX5_isWord_1 ?_
  refine g_if_ne F dX5_isWord_4 (tgt := 112) (by decide) (fun c1 => ?_) (fun c1 => ?_)
  · replace h := h.1 c1
    refine g_iconst (v := (0 : Int32)) F dX5_isWord_112 (by decide) ?_
    exact g_zret F R rfl rfl rfl dX5_isWord_113 ⟨_, _, rfl, rfl, h⟩
  replace h := h.2 c1
  refine g_aload_n F dX5_isWord_7 0 rfl ?_
  refine rgX5_X5_token F dX5_isWord_8 ?_
  refine g_iconst (v := (1 : Int32)) F dX5_isWord_11 (by decide) ?_
  refine g_icmp_ne F dX5_isWord_12 (tgt := 112) (by decide) (fun c2 => ?_) (fun c2 => ?_)
  · replace h := h.1 c2
    refine g_iconst (v := (0 : Int32)) F dX5_isWord_112 (by decide) ?_
    exact g_zret F R rfl rfl rfl dX5_isWord_113 ⟨_, _, rfl, rfl, h⟩
  replace h := h.2 c2
  refine g_aload_n F dX5_isWord_15 0 rfl ?_
  refine rgX5_X5_here F dX5_isWord_16 ?_
  refine g_aload_n F dX5_isWord_19 0 rfl ?_
  refine rgX5_X5_tokenAt F dX5_isWord_20 ?_
  refine g_bipush (v := (8 : Int32)) F dX5_isWord_23 (by decide) ?_
  refine g_iadd F dX5_isWord_25 ?_
  refine g_icmp_gt F dX5_isWord_26 (tgt := 112) (by decide) (fun c3 => ?_) (fun c3 => ?_)
  · replace h := h.1 c3
    refine g_iconst (v := (0 : Int32)) F dX5_isWord_112 (by decide) ?_
    exact g_zret F R rfl rfl rfl dX5_isWord_113 ⟨_, _, rfl, rfl, h⟩
  replace h := h.2 c3
  refine g_aload_n F dX5_isWord_29 0 rfl ?_
  refine g_iconst (v := (0 : Int32)) F dX5_isWord_30 (by decide) ?_
  refine g_iload_n F dX5_isWord_31 1 rfl ?_
  refine rX5_X5_isLetter F dX5_isWord_32 rfl h (fun r5 s4 h => ?_)
  refine g_if_eq F dX5_isWord_35 (tgt := 112) (by decide) (fun c6 => ?_) (fun c6 => ?_)
  · replace h := h.1 c6
    refine g_iconst (v := (0 : Int32)) F dX5_isWord_112 (by decide) ?_
    exact g_zret F R rfl rfl rfl dX5_isWord_113 ⟨_, _, rfl, rfl, h⟩
  replace h := h.2 c6
  refine g_aload_n F dX5_isWord_38 0 rfl ?_
  refine g_iconst (v := (1 : Int32)) F dX5_isWord_39 (by decide) ?_
  refine g_iload_n F dX5_isWord_40 2 rfl ?_
  refine rX5_X5_isLetter F dX5_isWord_41 rfl h (fun r8 s7 h => ?_)
  refine g_if_eq F dX5_isWord_44 (tgt := 112) (by decide) (fun c9 => ?_) (fun c9 => ?_)
  · replace h := h.1 c9
    refine g_iconst (v := (0 : Int32)) F dX5_isWord_112 (by decide) ?_
    exact g_zret F R rfl rfl rfl dX5_isWord_113 ⟨_, _, rfl, rfl, h⟩
  replace h := h.2 c9
  refine g_aload_n F dX5_isWord_47 0 rfl ?_
  refine g_iconst (v := (2 : Int32)) F dX5_isWord_48 (by decide) ?_
  refine g_iload_n F dX5_isWord_49 3 rfl ?_
  refine rX5_X5_isLetter F dX5_isWord_50 rfl h (fun r11 s10 h => ?_)
  refine g_if_eq F dX5_isWord_53 (tgt := 112) (by decide) (fun c12 => ?_) (fun c12 => ?_)
  · replace h := h.1 c12
    refine g_iconst (v := (0 : Int32)) F dX5_isWord_112 (by decide) ?_
    exact g_zret F R rfl rfl rfl dX5_isWord_113 ⟨_, _, rfl, rfl, h⟩
  replace h := h.2 c12
  refine g_aload_n F dX5_isWord_56 0 rfl ?_
  refine g_iconst (v := (3 : Int32)) F dX5_isWord_57 (by decide) ?_
  refine g_iload F dX5_isWord_58 4 rfl ?_
  refine rX5_X5_isLetter F dX5_isWord_60 rfl h (fun r14 s13 h => ?_)
  refine g_if_eq F dX5_isWord_63 (tgt := 112) (by decide) (fun c15 => ?_) (fun c15 => ?_)
  · replace h := h.1 c15
    refine g_iconst (v := (0 : Int32)) F dX5_isWord_112 (by decide) ?_
    exact g_zret F R rfl rfl rfl dX5_isWord_113 ⟨_, _, rfl, rfl, h⟩
  replace h := h.2 c15
  refine g_aload_n F dX5_isWord_66 0 rfl ?_
  refine g_iconst (v := (4 : Int32)) F dX5_isWord_67 (by decide) ?_
  refine g_iload F dX5_isWord_68 5 rfl ?_
  refine rX5_X5_isLetter F dX5_isWord_70 rfl h (fun r17 s16 h => ?_)
  refine g_if_eq F dX5_isWord_73 (tgt := 112) (by decide) (fun c18 => ?_) (fun c18 => ?_)
  · replace h := h.1 c18
    refine g_iconst (v := (0 : Int32)) F dX5_isWord_112 (by decide) ?_
    exact g_zret F R rfl rfl rfl dX5_isWord_113 ⟨_, _, rfl, rfl, h⟩
  replace h := h.2 c18
  refine g_aload_n F dX5_isWord_76 0 rfl ?_
  refine g_iconst (v := (5 : Int32)) F dX5_isWord_77 (by decide) ?_
  refine g_iload F dX5_isWord_78 6 rfl ?_
  refine rX5_X5_isLetter F dX5_isWord_80 rfl h (fun r20 s19 h => ?_)
  refine g_if_eq F dX5_isWord_83 (tgt := 112) (by decide) (fun c21 => ?_) (fun c21 => ?_)
  · replace h := h.1 c21
    refine g_iconst (v := (0 : Int32)) F dX5_isWord_112 (by decide) ?_
    exact g_zret F R rfl rfl rfl dX5_isWord_113 ⟨_, _, rfl, rfl, h⟩
  replace h := h.2 c21
  refine g_aload_n F dX5_isWord_86 0 rfl ?_
  refine g_bipush (v := (6 : Int32)) F dX5_isWord_87 (by decide) ?_
  refine g_iload F dX5_isWord_89 7 rfl ?_
  refine rX5_X5_isLetter F dX5_isWord_91 rfl h (fun r23 s22 h => ?_)
  refine g_if_eq F dX5_isWord_94 (tgt := 112) (by decide) (fun c24 => ?_) (fun c24 => ?_)
  · replace h := h.1 c24
    refine g_iconst (v := (0 : Int32)) F dX5_isWord_112 (by decide) ?_
    exact g_zret F R rfl rfl rfl dX5_isWord_113 ⟨_, _, rfl, rfl, h⟩
  replace h := h.2 c24
  refine g_aload_n F dX5_isWord_97 0 rfl ?_
  refine g_bipush (v := (7 : Int32)) F dX5_isWord_98 (by decide) ?_
  refine g_iload F dX5_isWord_100 8 rfl ?_
  refine rX5_X5_isLetter F dX5_isWord_102 rfl h (fun r26 s25 h => ?_)
  refine g_if_eq F dX5_isWord_105 (tgt := 112) (by decide) (fun c27 => ?_) (fun c27 => ?_)
  · replace h := h.1 c27
    refine g_iconst (v := (0 : Int32)) F dX5_isWord_112 (by decide) ?_
    exact g_zret F R rfl rfl rfl dX5_isWord_113 ⟨_, _, rfl, rfl, h⟩
  replace h := h.2 c27
  refine g_iconst (v := (1 : Int32)) F dX5_isWord_108 (by decide) ?_
  refine g_goto F dX5_isWord_109 (tgt := 113) (by decide) ?_
  exact g_zret F R rfl rfl rfl dX5_isWord_113 ⟨_, _, rfl, rfl, h⟩
set_option maxRecDepth 20000 in
theorem ctX5_fail (l : Launch) (g : kG) (A : Nat → Prop) (a : Nat → Nat) (E : va_W) {σ : kS} {Q : kS → Prop} (h : wX5_fail σ Q) : kCt l yX5_fail cX5_fail 1 none 0 40 0 0 g A [.ref (a 0)] (mW g a E σ) (kPv (mW g a E) Q) := by
  refine kCt.of (lv0 := [(0, .ref (a 0))]) (by decide +kernel) (Nat.le_of_ble_eq_true rfl) rfl (fun z hl hg hA F R => ?_)
  subst hl hg hA
  have F : kF z cX5_fail RX5 1 { frames := 0, cells := 0, slots := 0, locals := 40 } := F
  unfold wX5_fail at h
  refine g_aload_n F dX5_fail_0 0 rfl ?_
  refine rgX5_X5_bad F dX5_fail_1 ?_
  refine g_if_ne F dX5_fail_4 (tgt := 20) (by decide) (fun c1 => ?_) (fun c1 => ?_)
  · replace h := h.1 c1
    exact g_vret F R rfl rfl dX5_fail_20 ⟨_, rfl, rfl, h⟩
  replace h := h.2 c1
  refine g_aload_n F dX5_fail_7 0 rfl ?_
  refine g_iconst (v := (1 : Int32)) F dX5_fail_8 (by decide) ?_
  refine rpX5_X5_bad F (by decide) dX5_fail_9 ?_
  refine g_name (wf := mW (zg z) a E) (fun s2 es2 => ?_)
  replace h := h s2 es2
  refine g_aload_n F dX5_fail_12 0 rfl ?_
  refine g_aload_n F dX5_fail_13 0 rfl ?_
  refine rgX5_X5_tokenAt F dX5_fail_14 ?_
  refine rpX5_X5_fault F dX5_fail_17 ?_
  refine g_name (wf := mW (zg z) a E) (fun s3 es3 => ?_)
  replace h := h s3 es3
  exact g_vret F R rfl rfl dX5_fail_20 ⟨_, rfl, rfl, h⟩
theorem plX5_next : kPlain yX5_next 0 = true := by decide +kernel
theorem rX5_X5_next {z : kZ} {cc : ByteArray} {nL : Nat} {rm : Room} {c n pc : Nat} {lv : List (Nat × Value)} {st : List Value} {a : Nat → Nat} {E : va_W} {σ : kS} {Q : kS → Prop} (F : kF z cc RX5 nL rm) (hd : decode cc pc = .ok (.invokevirtual 179, 3)) (hf : kFits rm 1 65 0 0 3 c n st = true) (h : wX5_next σ Q) (k : ∀ σ' : kS, Q σ' → kV z (mW (zg z) a E σ') c n (pc + 3) lv st) : kV z (mW (zg z) a E σ) c n pc lv (.ref (a 0) :: st) := by
  exact g_callV F (av := []) (ctX5_next _ _ _ a E h) (ci := 5) (q0 := 0) rfl rfl rfl wq997 wq999 wq47 wq114 wq1000 plX5_next hd hf (fun r ws' hq => by
    obtain ⟨σ', rfl, rfl, hq⟩ := hq
    exact k σ' hq)
theorem plX5_fail : kPlain yX5_fail 0 = true := by decide +kernel
theorem rX5_X5_fail {z : kZ} {cc : ByteArray} {nL : Nat} {rm : Room} {c n pc : Nat} {lv : List (Nat × Value)} {st : List Value} {a : Nat → Nat} {E : va_W} {σ : kS} {Q : kS → Prop} (F : kF z cc RX5 nL rm) (hd : decode cc pc = .ok (.invokevirtual 176, 3)) (hf : kFits rm 0 40 0 0 1 c n st = true) (h : wX5_fail σ Q) (k : ∀ σ' : kS, Q σ' → kV z (mW (zg z) a E σ') c n (pc + 3) lv st) : kV z (mW (zg z) a E σ) c n pc lv (.ref (a 0) :: st) := by
  exact g_callV F (av := []) (ctX5_fail _ _ _ a E h) (ci := 5) (q0 := 0) rfl rfl rfl wq1021 wq1023 wq52 wq114 wq1024 plX5_fail hd hf (fun r ws' hq => by
    obtain ⟨σ', rfl, rfl, hq⟩ := hq
    exact k σ' hq)
set_option maxRecDepth 20000 in
theorem ctX5_opens (l : Launch) (g : kG) (A : Nat → Prop) (a : Nat → Nat) (E : va_W) {σ : kS} {Q : Int32 → kS → Prop} (h : wX5_opens σ Q) : kCt l yX5_opens cX5_opens 1 (some .boolean) 2 87 0 0 g A [.ref (a 0)] (mW g a E σ) (kPi (mW g a E) Q) := by
  refine kCt.of (lv0 := [(0, .ref (a 0))]) (by decide +kernel) (Nat.le_of_ble_eq_true rfl) rfl (fun z hl hg hA F R => ?_)
  subst hl hg hA
  have F : kF z cX5_opens RX5 1 { frames := 2, cells := 0, slots := 0, locals := 87 } := F
  unfold wX5_opens at h
  refine g_aload_n F dX5_opens_0 0 rfl ?_
  refine rgX5_X5_open F dX5_opens_1 ?_
  refine g_iconst (v := (5 : Int32)) F dX5_opens_4 (by decide) ?_
  refine g_icmp_ne F dX5_opens_5 (tgt := 14) (by decide) (fun c1 => ?_) (fun c1 => ?_)
  · replace h := h.1 c1
    refine g_aload_n F dX5_opens_14 0 rfl ?_
    refine g_dup F dX5_opens_15 rfl ?_
    refine rgX5_X5_open F dX5_opens_16 ?_
    refine g_iconst (v := (1 : Int32)) F dX5_opens_19 (by decide) ?_
    refine g_iadd F dX5_opens_20 ?_
    refine rpX5_X5_open F dX5_opens_21 ?_
    refine g_name (wf := mW (zg z) a E) (fun s2 es2 => ?_)
    replace h := h s2 es2
    refine g_aload_n F dX5_opens_24 0 rfl ?_
    refine rX5_X5_next F dX5_opens_25 rfl h (fun s3 h => ?_)
    refine g_iconst (v := (1 : Int32)) F dX5_opens_28 (by decide) ?_
    exact g_zret F R rfl rfl rfl dX5_opens_29 ⟨_, _, rfl, rfl, h⟩
  replace h := h.2 c1
  refine g_aload_n F dX5_opens_8 0 rfl ?_
  refine rX5_X5_fail F dX5_opens_9 rfl h (fun s4 h => ?_)
  refine g_iconst (v := (0 : Int32)) F dX5_opens_12 (by decide) ?_
  exact g_zret F R rfl rfl rfl dX5_opens_13 ⟨_, _, rfl, rfl, h⟩
set_option maxRecDepth 20000 in
theorem ctX5_isSign (l : Launch) (g : kG) (A : Nat → Prop) (a : Nat → Nat) (E : va_W) {l1 : Int32} {σ : kS} {Q : Int32 → kS → Prop} (h : wX5_isSign l1 σ Q) : kCt l yX5_isSign cX5_isSign 2 (some .boolean) 0 40 0 0 g A [.ref (a 0), .int l1] (mW g a E σ) (kPi (mW g a E) Q) := by
  refine kCt.of (lv0 := [(0, .ref (a 0)), (1, .int l1)]) (by decide +kernel) (Nat.le_of_ble_eq_true rfl) rfl (fun z hl hg hA F R => ?_)
  subst hl hg hA
  have F : kF z cX5_isSign RX5 2 { frames := 0, cells := 0, slots := 0, locals := 40 } := F
  unfold wX5_isSign at h
  refine g_aload_n F dX5_isSign_0 0 rfl ?_
  refine rgX5_X5_bad F dX5_isSign_1 ?_
  refine g_if_ne F dX5_isSign_4 (tgt := 29) (by decide) (fun c1 => ?_) (fun c1 => ?_)
  · replace h := h.1 c1
    refine g_iconst (v := (0 : Int32)) F dX5_isSign_29 (by decide) ?_
    exact g_zret F R rfl rfl rfl dX5_isSign_30 ⟨_, _, rfl, rfl, h⟩
  replace h := h.2 c1
  refine g_aload_n F dX5_isSign_7 0 rfl ?_
  refine rgX5_X5_token F dX5_isSign_8 ?_
  refine g_iconst (v := (3 : Int32)) F dX5_isSign_11 (by decide) ?_
  refine g_icmp_ne F dX5_isSign_12 (tgt := 29) (by decide) (fun c2 => ?_) (fun c2 => ?_)
  · replace h := h.1 c2
    refine g_iconst (v := (0 : Int32)) F dX5_isSign_29 (by decide) ?_
    exact g_zret F R rfl rfl rfl dX5_isSign_30 ⟨_, _, rfl, rfl, h⟩
  replace h := h.2 c2
  refine g_aload_n F dX5_isSign_15 0 rfl ?_
  refine rgX5_X5_tokenWorth F dX5_isSign_16 ?_
  refine g_iload_n F dX5_isSign_19 1 rfl ?_
  refine g_i2l F dX5_isSign_20 ?_
  refine g_lcmp F dX5_isSign_21 ?_
  refine g_if_ne F dX5_isSign_22 (tgt := 29) (by decide) (fun c3 => ?_) (fun c3 => ?_)
  · replace h := h.1 c3
    refine g_iconst (v := (0 : Int32)) F dX5_isSign_29 (by decide) ?_
    exact g_zret F R rfl rfl rfl dX5_isSign_30 ⟨_, _, rfl, rfl, h⟩
  replace h := h.2 c3
  refine g_iconst (v := (1 : Int32)) F dX5_isSign_25 (by decide) ?_
  refine g_goto F dX5_isSign_26 (tgt := 30) (by decide) ?_
  exact g_zret F R rfl rfl rfl dX5_isSign_30 ⟨_, _, rfl, rfl, h⟩
theorem plX5_isWord : kPlain yX5_isWord 8 = true := by decide +kernel
theorem rX5_X5_isWord {z : kZ} {cc : ByteArray} {nL : Nat} {rm : Room} {c n pc : Nat} {lv : List (Nat × Value)} {st : List Value} {a : Nat → Nat} {E : va_W} {σ : kS} {l1 : Int32} {l2 : Int32} {l3 : Int32} {l4 : Int32} {l5 : Int32} {l6 : Int32} {l7 : Int32} {l8 : Int32} {Q : Int32 → kS → Prop} (F : kF z cc RX5 nL rm) (hd : decode cc pc = .ok (.invokevirtual 182, 3)) (hf : kFits rm 2 83 0 0 9 c n st = true) (h : wX5_isWord l1 l2 l3 l4 l5 l6 l7 l8 σ Q) (k : ∀ (v : Int32) (σ' : kS), Q v σ' → kV z (mW (zg z) a E σ') c n (pc + 3) lv (.int v :: st)) : kV z (mW (zg z) a E σ) c n pc lv (.int l8 :: .int l7 :: .int l6 :: .int l5 :: .int l4 :: .int l3 :: .int l2 :: .int l1 :: .ref (a 0) :: st) := by
  exact g_callV F (av := [.int l1, .int l2, .int l3, .int l4, .int l5, .int l6, .int l7, .int l8]) (ctX5_isWord _ _ _ a E h) (ci := 5) (q0 := 0) rfl rfl rfl wq1009 wq1011 wq49 wq114 wq1012 plX5_isWord hd hf (fun r ws' hq => by
    obtain ⟨v, σ', rfl, rfl, hq⟩ := hq
    exact k v σ' hq)
set_option maxRecDepth 20000 in
theorem ctX5_name (l : Launch) (g : kG) (A : Nat → Prop) (a : Nat → Nat) (E : va_W) {σ : kS} {Q : Int32 → kS → Prop} (h : wX5_name σ Q) : kCt l yX5_name cX5_name 1 (some .int) 3 111 0 0 g A [.ref (a 0)] (mW g a E σ) (kPi (mW g a E) Q) := by
  refine kCt.of (lv0 := [(0, .ref (a 0))]) (by decide +kernel) (Nat.le_of_ble_eq_true rfl) rfl (fun z hl hg hA F R => ?_)
  subst hl hg hA
  have F : kF z cX5_name RX5 1 { frames := 3, cells := 0, slots := 0, locals := 111 } := F
  unfold wX5_name at h
  refine g_aload_n F dX5_name_0 0 rfl ?_
  refine g_bipush (v := (104 : Int32)) F dX5_name_1 (by decide) ?_
  refine g_bipush (v := (101 : Int32)) F dX5_name_3 (by decide) ?_
  refine g_bipush (v := (105 : Int32)) F dX5_name_5 (by decide) ?_
  refine g_bipush (v := (103 : Int32)) F dX5_name_7 (by decide) ?_
  refine g_bipush (v := (104 : Int32)) F dX5_name_9 (by decide) ?_
  refine g_bipush (v := (116 : Int32)) F dX5_name_11 (by decide) ?_
  refine g_iconst (v := (0 : Int32)) F dX5_name_13 (by decide) ?_
  refine g_iconst (v := (0 : Int32)) F dX5_name_14 (by decide) ?_
  refine rX5_X5_isWord F dX5_name_15 rfl h (fun r2 s1 h => ?_)
  refine g_if_eq F dX5_name_18 (tgt := 26) (by decide) (fun c3 => ?_) (fun c3 => ?_)
  · replace h := h.1 c3
    refine g_aload_n F dX5_name_26 0 rfl ?_
    refine g_bipush (v := (112 : Int32)) F dX5_name_27 (by decide) ?_
    refine g_bipush (v := (101 : Int32)) F dX5_name_29 (by decide) ?_
    refine g_bipush (v := (97 : Int32)) F dX5_name_31 (by decide) ?_
    refine g_bipush (v := (116 : Int32)) F dX5_name_33 (by decide) ?_
    refine g_iconst (v := (0 : Int32)) F dX5_name_35 (by decide) ?_
    refine g_iconst (v := (0 : Int32)) F dX5_name_36 (by decide) ?_
    refine g_iconst (v := (0 : Int32)) F dX5_name_37 (by decide) ?_
    refine g_iconst (v := (0 : Int32)) F dX5_name_38 (by decide) ?_
    refine rX5_X5_isWord F dX5_name_39 rfl h (fun r5 s4 h => ?_)
    refine g_if_eq F dX5_name_42 (tgt := 50) (by decide) (fun c6 => ?_) (fun c6 => ?_)
    · replace h := h.1 c6
      refine g_aload_n F dX5_name_50 0 rfl ?_
      refine g_bipush (v := (121 : Int32)) F dX5_name_51 (by decide) ?_
      refine g_bipush (v := (101 : Int32)) F dX5_name_53 (by decide) ?_
      refine g_bipush (v := (97 : Int32)) F dX5_name_55 (by decide) ?_
      refine g_bipush (v := (114 : Int32)) F dX5_name_57 (by decide) ?_
      refine g_iconst (v := (0 : Int32)) F dX5_name_59 (by decide) ?_
      refine g_iconst (v := (0 : Int32)) F dX5_name_60 (by decide) ?_
      refine g_iconst (v := (0 : Int32)) F dX5_name_61 (by decide) ?_
      refine g_iconst (v := (0 : Int32)) F dX5_name_62 (by decide) ?_
      refine rX5_X5_isWord F dX5_name_63 rfl h (fun r8 s7 h => ?_)
      refine g_if_eq F dX5_name_66 (tgt := 74) (by decide) (fun c9 => ?_) (fun c9 => ?_)
      · replace h := h.1 c9
        refine g_aload_n F dX5_name_74 0 rfl ?_
        refine g_bipush (v := (110 : Int32)) F dX5_name_75 (by decide) ?_
        refine g_bipush (v := (117 : Int32)) F dX5_name_77 (by decide) ?_
        refine g_bipush (v := (109 : Int32)) F dX5_name_79 (by decide) ?_
        refine g_bipush (v := (98 : Int32)) F dX5_name_81 (by decide) ?_
        refine g_bipush (v := (101 : Int32)) F dX5_name_83 (by decide) ?_
        refine g_bipush (v := (114 : Int32)) F dX5_name_85 (by decide) ?_
        refine g_iconst (v := (0 : Int32)) F dX5_name_87 (by decide) ?_
        refine g_iconst (v := (0 : Int32)) F dX5_name_88 (by decide) ?_
        refine rX5_X5_isWord F dX5_name_89 rfl h (fun r11 s10 h => ?_)
        refine g_if_eq F dX5_name_92 (tgt := 100) (by decide) (fun c12 => ?_) (fun c12 => ?_)
        · replace h := h.1 c12
          refine g_aload_n F dX5_name_100 0 rfl ?_
          refine g_bipush (v := (119 : Int32)) F dX5_name_101 (by decide) ?_
          refine g_bipush (v := (97 : Int32)) F dX5_name_103 (by decide) ?_
          refine g_bipush (v := (116 : Int32)) F dX5_name_105 (by decide) ?_
          refine g_bipush (v := (101 : Int32)) F dX5_name_107 (by decide) ?_
          refine g_bipush (v := (114 : Int32)) F dX5_name_109 (by decide) ?_
          refine g_iconst (v := (0 : Int32)) F dX5_name_111 (by decide) ?_
          refine g_iconst (v := (0 : Int32)) F dX5_name_112 (by decide) ?_
          refine g_iconst (v := (0 : Int32)) F dX5_name_113 (by decide) ?_
          refine rX5_X5_isWord F dX5_name_114 rfl h (fun r14 s13 h => ?_)
          refine g_if_eq F dX5_name_117 (tgt := 125) (by decide) (fun c15 => ?_) (fun c15 => ?_)
          · replace h := h.1 c15
            refine g_aload_n F dX5_name_125 0 rfl ?_
            refine g_bipush (v := (99 : Int32)) F dX5_name_126 (by decide) ?_
            refine g_bipush (v := (101 : Int32)) F dX5_name_128 (by decide) ?_
            refine g_bipush (v := (108 : Int32)) F dX5_name_130 (by decide) ?_
            refine g_bipush (v := (108 : Int32)) F dX5_name_132 (by decide) ?_
            refine g_iconst (v := (0 : Int32)) F dX5_name_134 (by decide) ?_
            refine g_iconst (v := (0 : Int32)) F dX5_name_135 (by decide) ?_
            refine g_iconst (v := (0 : Int32)) F dX5_name_136 (by decide) ?_
            refine g_iconst (v := (0 : Int32)) F dX5_name_137 (by decide) ?_
            refine rX5_X5_isWord F dX5_name_138 rfl h (fun r17 s16 h => ?_)
            refine g_if_eq F dX5_name_141 (tgt := 149) (by decide) (fun c18 => ?_) (fun c18 => ?_)
            · replace h := h.1 c18
              refine g_aload_n F dX5_name_149 0 rfl ?_
              refine rX5_X5_fail F dX5_name_150 rfl h (fun s19 h => ?_)
              refine g_iconst (v := (0 : Int32)) F dX5_name_153 (by decide) ?_
              exact g_iret F R rfl rfl dX5_name_154 ⟨_, _, rfl, rfl, h⟩
            replace h := h.2 c18
            refine g_aload_n F dX5_name_144 0 rfl ?_
            refine rgX5_X5_ofCell F dX5_name_145 ?_
            exact g_iret F R rfl rfl dX5_name_148 ⟨_, _, rfl, rfl, h⟩
          replace h := h.2 c15
          refine g_aload_n F dX5_name_120 0 rfl ?_
          refine rgX5_X5_ofWater F dX5_name_121 ?_
          exact g_iret F R rfl rfl dX5_name_124 ⟨_, _, rfl, rfl, h⟩
        replace h := h.2 c12
        refine g_aload_n F dX5_name_95 0 rfl ?_
        refine rgX5_X5_ofNumber F dX5_name_96 ?_
        exact g_iret F R rfl rfl dX5_name_99 ⟨_, _, rfl, rfl, h⟩
      replace h := h.2 c9
      refine g_aload_n F dX5_name_69 0 rfl ?_
      refine rgX5_X5_ofYear F dX5_name_70 ?_
      exact g_iret F R rfl rfl dX5_name_73 ⟨_, _, rfl, rfl, h⟩
    replace h := h.2 c6
    refine g_aload_n F dX5_name_45 0 rfl ?_
    refine rgX5_X5_ofPeat F dX5_name_46 ?_
    exact g_iret F R rfl rfl dX5_name_49 ⟨_, _, rfl, rfl, h⟩
  replace h := h.2 c3
  refine g_aload_n F dX5_name_21 0 rfl ?_
  refine rgX5_X5_ofHeight F dX5_name_22 ?_
  exact g_iret F R rfl rfl dX5_name_25 ⟨_, _, rfl, rfl, h⟩
theorem plX5_isSign : kPlain yX5_isSign 1 = true := by decide +kernel
theorem rX5_X5_isSign {z : kZ} {cc : ByteArray} {nL : Nat} {rm : Room} {c n pc : Nat} {lv : List (Nat × Value)} {st : List Value} {a : Nat → Nat} {E : va_W} {σ : kS} {l1 : Int32} {Q : Int32 → kS → Prop} (F : kF z cc RX5 nL rm) (hd : decode cc pc = .ok (.invokevirtual 204, 3)) (hf : kFits rm 0 40 0 0 2 c n st = true) (h : wX5_isSign l1 σ Q) (k : ∀ (v : Int32) (σ' : kS), Q v σ' → kV z (mW (zg z) a E σ') c n (pc + 3) lv (.int v :: st)) : kV z (mW (zg z) a E σ) c n pc lv (.int l1 :: .ref (a 0) :: st) := by
  exact g_callV F (av := [.int l1]) (ctX5_isSign _ _ _ a E h) (ci := 5) (q0 := 0) rfl rfl rfl wq1073 wq1075 wq65 wq114 wq1076 plX5_isSign hd hf (fun r ws' hq => by
    obtain ⟨v, σ', rfl, rfl, hq⟩ := hq
    exact k v σ' hq)
theorem plX5_opens : kPlain yX5_opens 0 = true := by decide +kernel
theorem rX5_X5_opens {z : kZ} {cc : ByteArray} {nL : Nat} {rm : Room} {c n pc : Nat} {lv : List (Nat × Value)} {st : List Value} {a : Nat → Nat} {E : va_W} {σ : kS} {Q : Int32 → kS → Prop} (F : kF z cc RX5 nL rm) (hd : decode cc pc = .ok (.invokevirtual 207, 3)) (hf : kFits rm 2 87 0 0 1 c n st = true) (h : wX5_opens σ Q) (k : ∀ (v : Int32) (σ' : kS), Q v σ' → kV z (mW (zg z) a E σ') c n (pc + 3) lv (.int v :: st)) : kV z (mW (zg z) a E σ) c n pc lv (.ref (a 0) :: st) := by
  exact g_callV F (av := []) (ctX5_opens _ _ _ a E h) (ci := 5) (q0 := 0) rfl rfl rfl wq1037 wq1039 wq56 wq114 wq1040 plX5_opens hd hf (fun r ws' hq => by
    obtain ⟨v, σ', rfl, rfl, hq⟩ := hq
    exact k v σ' hq)
theorem plX5_name : kPlain yX5_name 0 = true := by decide +kernel
theorem rX5_X5_name {z : kZ} {cc : ByteArray} {nL : Nat} {rm : Room} {c n pc : Nat} {lv : List (Nat × Value)} {st : List Value} {a : Nat → Nat} {E : va_W} {σ : kS} {Q : Int32 → kS → Prop} (F : kF z cc RX5 nL rm) (hd : decode cc pc = .ok (.invokevirtual 211, 3)) (hf : kFits rm 3 111 0 0 1 c n st = true) (h : wX5_name σ Q) (k : ∀ (v : Int32) (σ' : kS), Q v σ' → kV z (mW (zg z) a E σ') c n (pc + 3) lv (.int v :: st)) : kV z (mW (zg z) a E σ) c n pc lv (.ref (a 0) :: st) := by
  exact g_callV F (av := []) (ctX5_name _ _ _ a E h) (ci := 5) (q0 := 0) rfl rfl rfl wq1077 wq1079 wq66 wq114 wq1080 plX5_name hd hf (fun r ws' hq => by
    obtain ⟨v, σ', rfl, rfl, hq⟩ := hq
    exact k v σ' hq)
set_option maxRecDepth 20000 in
theorem sX5_atom5_98 {z : kZ} {a : Nat → Nat} {E : va_W}  {Q : Int32 → kS → Prop} {l1 : Int32} {σ : kS} (F : kF z cX5_atom5 RX5 2 { frames := 4, cells := 0, slots := 0, locals := 131 }) (R : kR z (some .int) 0 0 (kPi (mW (zg z) a E) Q)) (h : wX5_atom5_98 Q l1 σ) : kV z (mW (zg z) a E σ) 0 0 98 [(0, .ref (a 0)), (1, .int l1)] [] := by
  unfold wX5_atom5_98 at h
  refine g_aload_n F dX5_atom5_98 0 rfl ?_
  refine rX5_X5_fail F dX5_atom5_99 rfl h (fun s21 h => ?_)
  refine g_iload_n F dX5_atom5_102 1 rfl ?_
  exact g_iret F R rfl rfl dX5_atom5_103 ⟨_, _, rfl, rfl, h⟩
set_option maxRecDepth 20000 in
theorem sX5_atom5_64 {z : kZ} {a : Nat → Nat} {E : va_W}  {Q : Int32 → kS → Prop} {l1 : Int32} {σ : kS} (F : kF z cX5_atom5 RX5 2 { frames := 4, cells := 0, slots := 0, locals := 131 }) (R : kR z (some .int) 0 0 (kPi (mW (zg z) a E) Q)) (h : wX5_atom5_64 Q l1 σ) : kV z (mW (zg z) a E σ) 0 0 64 [(0, .ref (a 0)), (1, .int l1)] [] := by
  unfold wX5_atom5_64 at h
  refine g_aload_n F dX5_atom5_64 0 rfl ?_
  refine rgX5_X5_bad F dX5_atom5_65 ?_
  refine g_if_ne F dX5_atom5_68 (tgt := 98) (by decide) (fun c15 => ?_) (fun c15 => ?_)
  · replace h := h.1 c15
    exact (sX5_atom5_98 F R h)
  replace h := h.2 c15
  refine g_aload_n F dX5_atom5_71 0 rfl ?_
  refine rgX5_X5_token F dX5_atom5_72 ?_
  refine g_iconst (v := (1 : Int32)) F dX5_atom5_75 (by decide) ?_
  refine g_icmp_ne F dX5_atom5_76 (tgt := 98) (by decide) (fun c16 => ?_) (fun c16 => ?_)
  · replace h := h.1 c16
    exact (sX5_atom5_98 F R h)
  replace h := h.2 c16
  refine g_aload_n F dX5_atom5_79 0 rfl ?_
  refine rX5_X5_name F dX5_atom5_80 rfl h (fun r18 s17 h => ?_)
  refine g_istore_n (lv' := [(1, .int r18), (0, .ref (a 0))]) F dX5_atom5_83 rfl rfl ?_
  refine g_aload_n F dX5_atom5_84 1 rfl ?_
  refine rgX5_X5_bad F dX5_atom5_85 ?_
  refine g_if_ne F dX5_atom5_88 (tgt := 102) (by decide) (fun c19 => ?_) (fun c19 => ?_)
  · replace h := h.1 c19
    refine g_iload_n F dX5_atom5_102 0 rfl ?_
    exact g_iret F R rfl rfl dX5_atom5_103 ⟨_, _, rfl, rfl, h⟩
  replace h := h.2 c19
  refine g_aload_n F dX5_atom5_91 1 rfl ?_
  refine rX5_X5_next F dX5_atom5_92 rfl h (fun s20 h => ?_)
  refine g_goto F dX5_atom5_95 (tgt := 102) (by decide) ?_
  refine g_iload_n F dX5_atom5_102 0 rfl ?_
  exact g_iret F R rfl rfl dX5_atom5_103 ⟨_, _, rfl, rfl, h⟩
set_option maxRecDepth 20000 in
theorem ctX5_atom5 (l : Launch) (g : kG) (A : Nat → Prop) (a : Nat → Nat) (E : va_W) {σ : kS} {Q : Int32 → kS → Prop} (h : wX5_atom5 σ Q) : kCt l yX5_atom5 cX5_atom5 2 (some .int) 4 131 0 0 g A [.ref (a 0)] (mW g a E σ) (kPi (mW g a E) Q) := by
  refine kCt.of (lv0 := [(0, .ref (a 0))]) (by decide +kernel) (Nat.le_of_ble_eq_true rfl) rfl (fun z hl hg hA F R => ?_)
  subst hl hg hA
  have F : kF z cX5_atom5 RX5 2 { frames := 4, cells := 0, slots := 0, locals := 131 } := F
  unfold wX5_atom5 at h
  refine g_iconst (v := (0 : Int32)) F dX5_atom5_0 (by decide) ?_
  refine g_istore_n (lv' := [(1, .int (0 : Int32)), (0, .ref (a 0))]) F dX5_atom5_1 rfl rfl ?_
  refine g_aload_n F dX5_atom5_2 1 rfl ?_
  refine g_bipush (v := (45 : Int32)) F dX5_atom5_3 (by decide) ?_
  refine rX5_X5_isSign F dX5_atom5_5 rfl h (fun r2 s1 h => ?_)
  refine g_if_eq F dX5_atom5_8 (tgt := 19) (by decide) (fun c3 => ?_) (fun c3 => ?_)
  · replace h := h.1 c3
    refine g_aload_n F dX5_atom5_19 1 rfl ?_
    refine g_bipush (v := (40 : Int32)) F dX5_atom5_20 (by decide) ?_
    refine rX5_X5_isSign F dX5_atom5_22 rfl h (fun r5 s4 h => ?_)
    refine g_if_eq F dX5_atom5_25 (tgt := 36) (by decide) (fun c6 => ?_) (fun c6 => ?_)
    · replace h := h.1 c6
      refine g_aload_n F dX5_atom5_36 1 rfl ?_
      refine rgX5_X5_bad F dX5_atom5_37 ?_
      refine g_if_ne F dX5_atom5_40 (tgt := 64) (by decide) (fun c7 => ?_) (fun c7 => ?_)
      · replace h := h.1 c7
        exact g_sub [1, 0] rfl (sX5_atom5_64 F R h)
      replace h := h.2 c7
      refine g_aload_n F dX5_atom5_43 1 rfl ?_
      refine rgX5_X5_token F dX5_atom5_44 ?_
      refine g_iconst (v := (2 : Int32)) F dX5_atom5_47 (by decide) ?_
      refine g_icmp_ne F dX5_atom5_48 (tgt := 64) (by decide) (fun c8 => ?_) (fun c8 => ?_)
      · replace h := h.1 c8
        exact g_sub [1, 0] rfl (sX5_atom5_64 F R h)
      replace h := h.2 c8
      refine g_aload_n F dX5_atom5_51 1 rfl ?_
      refine rgX5_X5_tokenWorth F dX5_atom5_52 ?_
      refine g_l2i F dX5_atom5_55 ?_
      refine g_topi (fun x9 ex9 => ?_)
      replace h := h x9 ex9
      refine g_istore_n (lv' := [(1, .int x9), (0, .ref (a 0))]) F dX5_atom5_56 rfl rfl ?_
      refine g_aload_n F dX5_atom5_57 1 rfl ?_
      refine rX5_X5_next F dX5_atom5_58 rfl h (fun s10 h => ?_)
      refine g_goto F dX5_atom5_61 (tgt := 102) (by decide) ?_
      refine g_iload_n F dX5_atom5_102 0 rfl ?_
      exact g_iret F R rfl rfl dX5_atom5_103 ⟨_, _, rfl, rfl, h⟩
    replace h := h.2 c6
    refine g_aload_n F dX5_atom5_28 1 rfl ?_
    refine rX5_X5_opens F dX5_atom5_29 rfl h (fun r12 s11 h => ?_)
    refine g_pop F dX5_atom5_32 rfl ?_
    refine g_goto F dX5_atom5_33 (tgt := 102) (by decide) ?_
    refine g_iload_n F dX5_atom5_102 0 rfl ?_
    exact g_iret F R rfl rfl dX5_atom5_103 ⟨_, _, rfl, rfl, h⟩
  replace h := h.2 c3
  refine g_aload_n F dX5_atom5_11 1 rfl ?_
  refine rX5_X5_opens F dX5_atom5_12 rfl h (fun r14 s13 h => ?_)
  refine g_pop F dX5_atom5_15 rfl ?_
  refine g_goto F dX5_atom5_16 (tgt := 102) (by decide) ?_
  refine g_iload_n F dX5_atom5_102 0 rfl ?_
  exact g_iret F R rfl rfl dX5_atom5_103 ⟨_, _, rfl, rfl, h⟩
theorem plX5_atom5 : kPlain yX5_atom5 0 = true := by decide +kernel
theorem rX5_X5_atom5 {z : kZ} {cc : ByteArray} {nL : Nat} {rm : Room} {c n pc : Nat} {lv : List (Nat × Value)} {st : List Value} {a : Nat → Nat} {E : va_W} {σ : kS} {Q : Int32 → kS → Prop} (F : kF z cc RX5 nL rm) (hd : decode cc pc = .ok (.invokevirtual 215, 3)) (hf : kFits rm 4 131 0 0 2 c n st = true) (h : wX5_atom5 σ Q) (k : ∀ (v : Int32) (σ' : kS), Q v σ' → kV z (mW (zg z) a E σ') c n (pc + 3) lv (.int v :: st)) : kV z (mW (zg z) a E σ) c n pc lv (.ref (a 0) :: st) := by
  exact g_callV F (av := []) (ctX5_atom5 _ _ _ a E h) (ci := 5) (q0 := 0) rfl rfl rfl wq1069 wq1071 wq64 wq114 wq1072 plX5_atom5 hd hf (fun r ws' hq => by
    obtain ⟨v, σ', rfl, rfl, hq⟩ := hq
    exact k v σ' hq)
set_option maxRecDepth 20000 in
theorem sX5_term5_5 {z : kZ} {a : Nat → Nat} {E : va_W}  {Q : Int32 → kS → Prop} {l1 : Int32} {σ : kS} (F : kF z cX5_term5 RX5 2 { frames := 5, cells := 0, slots := 0, locals := 152 }) (R : kR z (some .int) 0 0 (kPi (mW (zg z) a E) Q)) (h : wX5_term5_5 Q l1 σ) : kV z (mW (zg z) a E σ) 0 0 5 [(0, .ref (a 0)), (1, .int l1)] [] := by
  unfold wX5_term5_5 at h
  refine h (fun σ l1 => kV z (mW (zg z) a E σ) 0 0 5 [(0, .ref (a 0)), (1, .int l1)] []) (fun σ l1 h => ?_)
  refine g_aload_n F dX5_term5_5 0 rfl ?_
  refine g_bipush (v := (42 : Int32)) F dX5_term5_6 (by decide) ?_
  refine rX5_X5_isSign F dX5_term5_8 rfl h (fun r4 s3 h => ?_)
  refine g_if_eq F dX5_term5_11 (tgt := 28) (by decide) (fun c5 => ?_) (fun c5 => ?_)
  · replace h := h.1 c5
    refine g_iload_n F dX5_term5_28 1 rfl ?_
    exact g_iret F R rfl rfl dX5_term5_29 ⟨_, _, rfl, rfl, h⟩
  replace h := h.2 c5
  refine g_aload_n F dX5_term5_14 0 rfl ?_
  refine rX5_X5_next F dX5_term5_15 rfl h (fun s6 h => ?_)
  refine g_iload_n F dX5_term5_18 1 rfl ?_
  refine g_aload_n F dX5_term5_19 0 rfl ?_
  refine rX5_X5_atom5 F dX5_term5_20 rfl h (fun r8 s7 h => ?_)
  refine g_imul F dX5_term5_23 ?_
  refine g_topi (fun x9 ex9 => ?_)
  replace h := h x9 ex9
  refine g_istore_n (lv' := [(1, .int x9), (0, .ref (a 0))]) F dX5_term5_24 rfl rfl ?_
  refine g_goto F dX5_term5_25 (tgt := 5) (by decide) ?_
  exact (g_sub [1, 0] rfl h)
set_option maxRecDepth 20000 in
theorem ctX5_term5 (l : Launch) (g : kG) (A : Nat → Prop) (a : Nat → Nat) (E : va_W) {σ : kS} {Q : Int32 → kS → Prop} (h : wX5_term5 σ Q) : kCt l yX5_term5 cX5_term5 2 (some .int) 5 152 0 0 g A [.ref (a 0)] (mW g a E σ) (kPi (mW g a E) Q) := by
  refine kCt.of (lv0 := [(0, .ref (a 0))]) (by decide +kernel) (Nat.le_of_ble_eq_true rfl) rfl (fun z hl hg hA F R => ?_)
  subst hl hg hA
  have F : kF z cX5_term5 RX5 2 { frames := 5, cells := 0, slots := 0, locals := 152 } := F
  unfold wX5_term5 at h
  refine g_aload_n F dX5_term5_0 0 rfl ?_
  refine rX5_X5_atom5 F dX5_term5_1 rfl h (fun r2 s1 h => ?_)
  refine g_istore_n (lv' := [(1, .int r2), (0, .ref (a 0))]) F dX5_term5_4 rfl rfl ?_
  exact g_sub [1, 0] rfl (sX5_term5_5 F R h)
theorem plX5_term5 : kPlain yX5_term5 0 = true := by decide +kernel
theorem rX5_X5_term5 {z : kZ} {cc : ByteArray} {nL : Nat} {rm : Room} {c n pc : Nat} {lv : List (Nat × Value)} {st : List Value} {a : Nat → Nat} {E : va_W} {σ : kS} {Q : Int32 → kS → Prop} (F : kF z cc RX5 nL rm) (hd : decode cc pc = .ok (.invokevirtual 218, 3)) (hf : kFits rm 5 152 0 0 2 c n st = true) (h : wX5_term5 σ Q) (k : ∀ (v : Int32) (σ' : kS), Q v σ' → kV z (mW (zg z) a E σ') c n (pc + 3) lv (.int v :: st)) : kV z (mW (zg z) a E σ) c n pc lv (.ref (a 0) :: st) := by
  exact g_callV F (av := []) (ctX5_term5 _ _ _ a E h) (ci := 5) (q0 := 0) rfl rfl rfl wq1065 wq1067 wq63 wq114 wq1068 plX5_term5 hd hf (fun r ws' hq => by
    obtain ⟨v, σ', rfl, rfl, hq⟩ := hq
    exact k v σ' hq)
set_option maxRecDepth 20000 in
theorem sX5_added5_39 {z : kZ} {a : Nat → Nat} {E : va_W}  {Q : Int32 → kS → Prop} {P5 : kS → Int32 → Prop} {l1 : Int32} {ks0 : Int32} {σ : kS} (F : kF z cX5_added5 RX5 4 { frames := 6, cells := 0, slots := 0, locals := 173 }) (R : kR z (some .int) 0 0 (kPi (mW (zg z) a E) Q)) (hP5 : ∀ (σ : kS) (l1 : Int32), P5 σ l1 → kV z (mW (zg z) a E σ) 0 0 5 [(0, .ref (a 0)), (1, .int l1)] []) (h : wX5_added5_39 Q P5 l1 ks0 σ) : kV z (mW (zg z) a E σ) 0 0 39 [(0, .ref (a 0)), (1, .int l1)] [.int ks0] := by
  unfold wX5_added5_39 at h
  refine g_istore_n (lv' := [(2, .int ks0), (0, .ref (a 0)), (1, .int l1)]) F dX5_added5_39 rfl rfl ?_
  refine g_aload_n F dX5_added5_40 1 rfl ?_
  refine rX5_X5_next F dX5_added5_41 rfl h (fun s10 h => ?_)
  refine g_aload_n F dX5_added5_44 1 rfl ?_
  refine rX5_X5_term5 F dX5_added5_45 rfl h (fun r12 s11 h => ?_)
  refine g_istore_n (lv' := [(3, .int r12), (2, .int ks0), (0, .ref (a 0)), (1, .int l1)]) F dX5_added5_48 rfl rfl ?_
  refine g_iload_n F dX5_added5_49 1 rfl ?_
  refine g_if_eq F dX5_added5_50 (tgt := 59) (by decide) (fun c13 => ?_) (fun c13 => ?_)
  · replace h := h.1 c13
    refine g_iload_n F dX5_added5_59 3 rfl ?_
    refine g_iload_n F dX5_added5_60 0 rfl ?_
    refine g_isub F dX5_added5_61 ?_
    refine g_topi (fun x14 ex14 => ?_)
    replace h := h x14 ex14
    refine g_istore_n (lv' := [(1, .int x14), (3, .int r12), (2, .int ks0), (0, .ref (a 0))]) F dX5_added5_62 rfl rfl ?_
    refine g_goto F dX5_added5_63 (tgt := 5) (by decide) ?_
    exact g_sub [3, 0] rfl (hP5 _ _ h)
  replace h := h.2 c13
  refine g_iload_n F dX5_added5_53 3 rfl ?_
  refine g_iload_n F dX5_added5_54 0 rfl ?_
  refine g_iadd F dX5_added5_55 ?_
  refine g_goto F dX5_added5_56 (tgt := 62) (by decide) ?_
  refine g_topi (fun x15 ex15 => ?_)
  replace h := h x15 ex15
  refine g_istore_n (lv' := [(1, .int x15), (3, .int r12), (2, .int ks0), (0, .ref (a 0))]) F dX5_added5_62 rfl rfl ?_
  refine g_goto F dX5_added5_63 (tgt := 5) (by decide) ?_
  exact g_sub [3, 0] rfl (hP5 _ _ h)
set_option maxRecDepth 20000 in
theorem sX5_added5_23 {z : kZ} {a : Nat → Nat} {E : va_W}  {Q : Int32 → kS → Prop} {P5 : kS → Int32 → Prop} {l1 : Int32} {σ : kS} (F : kF z cX5_added5 RX5 4 { frames := 6, cells := 0, slots := 0, locals := 173 }) (R : kR z (some .int) 0 0 (kPi (mW (zg z) a E) Q)) (hP5 : ∀ (σ : kS) (l1 : Int32), P5 σ l1 → kV z (mW (zg z) a E σ) 0 0 5 [(0, .ref (a 0)), (1, .int l1)] []) (h : wX5_added5_23 Q P5 l1 σ) : kV z (mW (zg z) a E σ) 0 0 23 [(0, .ref (a 0)), (1, .int l1)] [] := by
  unfold wX5_added5_23 at h
  refine g_aload_n F dX5_added5_23 0 rfl ?_
  refine rgX5_X5_tokenWorth F dX5_added5_24 ?_
  refine g_ldc2 (v := (43 : Int64)) F dX5_added5_27 wq1081 ?_
  refine g_lcmp F dX5_added5_30 ?_
  refine g_if_ne F dX5_added5_31 (tgt := 38) (by decide) (fun c9 => ?_) (fun c9 => ?_)
  · replace h := h.1 c9
    refine g_iconst (v := (0 : Int32)) F dX5_added5_38 (by decide) ?_
    exact (sX5_added5_39 F R hP5 h)
  replace h := h.2 c9
  refine g_iconst (v := (1 : Int32)) F dX5_added5_34 (by decide) ?_
  refine g_goto F dX5_added5_35 (tgt := 39) (by decide) ?_
  exact (sX5_added5_39 F R hP5 h)
set_option maxRecDepth 20000 in
theorem sX5_added5_5 {z : kZ} {a : Nat → Nat} {E : va_W}  {Q : Int32 → kS → Prop} {l1 : Int32} {σ : kS} (F : kF z cX5_added5 RX5 4 { frames := 6, cells := 0, slots := 0, locals := 173 }) (R : kR z (some .int) 0 0 (kPi (mW (zg z) a E) Q)) (h : wX5_added5_5 Q l1 σ) : kV z (mW (zg z) a E σ) 0 0 5 [(0, .ref (a 0)), (1, .int l1)] [] := by
  unfold wX5_added5_5 at h
  refine h (fun σ l1 => kV z (mW (zg z) a E σ) 0 0 5 [(0, .ref (a 0)), (1, .int l1)] []) (fun σ l1 h => ?_)
  refine g_aload_n F dX5_added5_5 0 rfl ?_
  refine g_bipush (v := (43 : Int32)) F dX5_added5_6 (by decide) ?_
  refine rX5_X5_isSign F dX5_added5_8 rfl h (fun r4 s3 h => ?_)
  refine g_if_ne F dX5_added5_11 (tgt := 23) (by decide) (fun c5 => ?_) (fun c5 => ?_)
  · replace h := h.1 c5
    exact (sX5_added5_23 F R (fun _ _ h => h) h)
  replace h := h.2 c5
  refine g_aload_n F dX5_added5_14 0 rfl ?_
  refine g_bipush (v := (45 : Int32)) F dX5_added5_15 (by decide) ?_
  refine rX5_X5_isSign F dX5_added5_17 rfl h (fun r7 s6 h => ?_)
  refine g_if_eq F dX5_added5_20 (tgt := 66) (by decide) (fun c8 => ?_) (fun c8 => ?_)
  · replace h := h.1 c8
    refine g_iload_n F dX5_added5_66 1 rfl ?_
    exact g_iret F R rfl rfl dX5_added5_67 ⟨_, _, rfl, rfl, h⟩
  replace h := h.2 c8
  exact (sX5_added5_23 F R (fun _ _ h => h) h)
set_option maxRecDepth 20000 in
theorem ctX5_added5 (l : Launch) (g : kG) (A : Nat → Prop) (a : Nat → Nat) (E : va_W) {σ : kS} {Q : Int32 → kS → Prop} (h : wX5_added5 σ Q) : kCt l yX5_added5 cX5_added5 4 (some .int) 6 173 0 0 g A [.ref (a 0)] (mW g a E σ) (kPi (mW g a E) Q) := by
  refine kCt.of (lv0 := [(0, .ref (a 0))]) (by decide +kernel) (Nat.le_of_ble_eq_true rfl) rfl (fun z hl hg hA F R => ?_)
  subst hl hg hA
  have F : kF z cX5_added5 RX5 4 { frames := 6, cells := 0, slots := 0, locals := 173 } := F
  unfold wX5_added5 at h
  refine g_aload_n F dX5_added5_0 0 rfl ?_
  refine rX5_X5_term5 F dX5_added5_1 rfl h (fun r2 s1 h => ?_)
  refine g_istore_n (lv' := [(1, .int r2), (0, .ref (a 0))]) F dX5_added5_4 rfl rfl ?_
  exact g_sub [1, 0] rfl (sX5_added5_5 F R h)
theorem plX5_added5 : kPlain yX5_added5 0 = true := by decide +kernel
theorem rX5_X5_added5 {z : kZ} {cc : ByteArray} {nL : Nat} {rm : Room} {c n pc : Nat} {lv : List (Nat × Value)} {st : List Value} {a : Nat → Nat} {E : va_W} {σ : kS} {Q : Int32 → kS → Prop} (F : kF z cc RX5 nL rm) (hd : decode cc pc = .ok (.invokevirtual 223, 3)) (hf : kFits rm 6 173 0 0 4 c n st = true) (h : wX5_added5 σ Q) (k : ∀ (v : Int32) (σ' : kS), Q v σ' → kV z (mW (zg z) a E σ') c n (pc + 3) lv (.int v :: st)) : kV z (mW (zg z) a E σ) c n pc lv (.ref (a 0) :: st) := by
  exact g_callV F (av := []) (ctX5_added5 _ _ _ a E h) (ci := 5) (q0 := 0) rfl rfl rfl wq1061 wq1063 wq62 wq114 wq1064 plX5_added5 hd hf (fun r ws' hq => by
    obtain ⟨v, σ', rfl, rfl, hq⟩ := hq
    exact k v σ' hq)
set_option maxRecDepth 20000 in
theorem sX5_not5_66 {z : kZ} {a : Nat → Nat} {E : va_W}  {Q : Int32 → kS → Prop} {l1 : Int32} {ks0 : Int32} {σ : kS} (F : kF z cX5_not5 RX5 4 { frames := 7, cells := 0, slots := 0, locals := 196 }) (R : kR z (some .int) 0 0 (kPi (mW (zg z) a E) Q)) (h : wX5_not5_66 Q l1 ks0 σ) : kV z (mW (zg z) a E σ) 0 0 66 [(0, .ref (a 0)), (1, .int l1)] [.int ks0] := by
  unfold wX5_not5_66 at h
  refine g_istore_n (lv' := [(2, .int ks0), (0, .ref (a 0)), (1, .int l1)]) F dX5_not5_66 rfl rfl ?_
  refine g_aload_n F dX5_not5_67 1 rfl ?_
  refine rX5_X5_next F dX5_not5_68 rfl h (fun s15 h => ?_)
  refine g_aload_n F dX5_not5_71 1 rfl ?_
  refine rX5_X5_added5 F dX5_not5_72 rfl h (fun r17 s16 h => ?_)
  refine g_istore_n (lv' := [(3, .int r17), (2, .int ks0), (0, .ref (a 0)), (1, .int l1)]) F dX5_not5_75 rfl rfl ?_
  refine g_iload_n F dX5_not5_76 1 rfl ?_
  refine g_if_eq F dX5_not5_77 (tgt := 88) (by decide) (fun c18 => ?_) (fun c18 => ?_)
  · replace h := h.1 c18
    refine g_iload_n F dX5_not5_88 3 rfl ?_
    refine g_iload_n F dX5_not5_89 0 rfl ?_
    refine g_icmp_ne F dX5_not5_90 (tgt := 97) (by decide) (fun c19 => ?_) (fun c19 => ?_)
    · replace h := h.1 c19
      refine g_iconst (v := (0 : Int32)) F dX5_not5_97 (by decide) ?_
      exact g_iret F R rfl rfl dX5_not5_98 ⟨_, _, rfl, rfl, h⟩
    replace h := h.2 c19
    refine g_iconst (v := (1 : Int32)) F dX5_not5_93 (by decide) ?_
    refine g_goto F dX5_not5_94 (tgt := 98) (by decide) ?_
    exact g_iret F R rfl rfl dX5_not5_98 ⟨_, _, rfl, rfl, h⟩
  replace h := h.2 c18
  refine g_iload_n F dX5_not5_80 3 rfl ?_
  refine g_iload_n F dX5_not5_81 0 rfl ?_
  refine g_icmp_ge F dX5_not5_82 (tgt := 97) (by decide) (fun c20 => ?_) (fun c20 => ?_)
  · replace h := h.1 c20
    refine g_iconst (v := (0 : Int32)) F dX5_not5_97 (by decide) ?_
    exact g_iret F R rfl rfl dX5_not5_98 ⟨_, _, rfl, rfl, h⟩
  replace h := h.2 c20
  refine g_goto F dX5_not5_85 (tgt := 93) (by decide) ?_
  refine g_iconst (v := (1 : Int32)) F dX5_not5_93 (by decide) ?_
  refine g_goto F dX5_not5_94 (tgt := 98) (by decide) ?_
  exact g_iret F R rfl rfl dX5_not5_98 ⟨_, _, rfl, rfl, h⟩
set_option maxRecDepth 20000 in
theorem sX5_not5_50 {z : kZ} {a : Nat → Nat} {E : va_W}  {Q : Int32 → kS → Prop} {l1 : Int32} {σ : kS} (F : kF z cX5_not5 RX5 4 { frames := 7, cells := 0, slots := 0, locals := 196 }) (R : kR z (some .int) 0 0 (kPi (mW (zg z) a E) Q)) (h : wX5_not5_50 Q l1 σ) : kV z (mW (zg z) a E σ) 0 0 50 [(0, .ref (a 0)), (1, .int l1)] [] := by
  unfold wX5_not5_50 at h
  refine g_aload_n F dX5_not5_50 0 rfl ?_
  refine rgX5_X5_tokenWorth F dX5_not5_51 ?_
  refine g_ldc2 (v := (60 : Int64)) F dX5_not5_54 wq1082 ?_
  refine g_lcmp F dX5_not5_57 ?_
  refine g_if_ne F dX5_not5_58 (tgt := 65) (by decide) (fun c14 => ?_) (fun c14 => ?_)
  · replace h := h.1 c14
    refine g_iconst (v := (0 : Int32)) F dX5_not5_65 (by decide) ?_
    exact (sX5_not5_66 F R h)
  replace h := h.2 c14
  refine g_iconst (v := (1 : Int32)) F dX5_not5_61 (by decide) ?_
  refine g_goto F dX5_not5_62 (tgt := 66) (by decide) ?_
  exact (sX5_not5_66 F R h)
set_option maxRecDepth 20000 in
theorem ctX5_not5 (l : Launch) (g : kG) (A : Nat → Prop) (a : Nat → Nat) (E : va_W) {σ : kS} {Q : Int32 → kS → Prop} (h : wX5_not5 σ Q) : kCt l yX5_not5 cX5_not5 4 (some .int) 7 196 0 0 g A [.ref (a 0)] (mW g a E σ) (kPi (mW g a E) Q) := by
  refine kCt.of (lv0 := [(0, .ref (a 0))]) (by decide +kernel) (Nat.le_of_ble_eq_true rfl) rfl (fun z hl hg hA F R => ?_)
  subst hl hg hA
  have F : kF z cX5_not5 RX5 4 { frames := 7, cells := 0, slots := 0, locals := 196 } := F
  unfold wX5_not5 at h
  refine g_aload_n F dX5_not5_0 0 rfl ?_
  refine g_bipush (v := (110 : Int32)) F dX5_not5_1 (by decide) ?_
  refine g_bipush (v := (111 : Int32)) F dX5_not5_3 (by decide) ?_
  refine g_bipush (v := (116 : Int32)) F dX5_not5_5 (by decide) ?_
  refine g_iconst (v := (0 : Int32)) F dX5_not5_7 (by decide) ?_
  refine g_iconst (v := (0 : Int32)) F dX5_not5_8 (by decide) ?_
  refine g_iconst (v := (0 : Int32)) F dX5_not5_9 (by decide) ?_
  refine g_iconst (v := (0 : Int32)) F dX5_not5_10 (by decide) ?_
  refine g_iconst (v := (0 : Int32)) F dX5_not5_11 (by decide) ?_
  refine rX5_X5_isWord F dX5_not5_12 rfl h (fun r2 s1 h => ?_)
  refine g_if_eq F dX5_not5_15 (tgt := 25) (by decide) (fun c3 => ?_) (fun c3 => ?_)
  · replace h := h.1 c3
    refine g_aload_n F dX5_not5_25 0 rfl ?_
    refine rX5_X5_added5 F dX5_not5_26 rfl h (fun r5 s4 h => ?_)
    refine g_istore_n (lv' := [(1, .int r5), (0, .ref (a 0))]) F dX5_not5_29 rfl rfl ?_
    refine g_aload_n F dX5_not5_30 1 rfl ?_
    refine g_bipush (v := (60 : Int32)) F dX5_not5_31 (by decide) ?_
    refine rX5_X5_isSign F dX5_not5_33 rfl h (fun r7 s6 h => ?_)
    refine g_if_ne F dX5_not5_36 (tgt := 50) (by decide) (fun c8 => ?_) (fun c8 => ?_)
    · replace h := h.1 c8
      exact g_sub [1, 0] rfl (sX5_not5_50 F R h)
    replace h := h.2 c8
    refine g_aload_n F dX5_not5_39 1 rfl ?_
    refine g_bipush (v := (61 : Int32)) F dX5_not5_40 (by decide) ?_
    refine rX5_X5_isSign F dX5_not5_42 rfl h (fun r10 s9 h => ?_)
    refine g_if_ne F dX5_not5_45 (tgt := 50) (by decide) (fun c11 => ?_) (fun c11 => ?_)
    · replace h := h.1 c11
      exact g_sub [1, 0] rfl (sX5_not5_50 F R h)
    replace h := h.2 c11
    refine g_iload_n F dX5_not5_48 0 rfl ?_
    exact g_iret F R rfl rfl dX5_not5_49 ⟨_, _, rfl, rfl, h⟩
  replace h := h.2 c3
  refine g_aload_n F dX5_not5_18 0 rfl ?_
  refine rX5_X5_opens F dX5_not5_19 rfl h (fun r13 s12 h => ?_)
  refine g_pop F dX5_not5_22 rfl ?_
  refine g_iconst (v := (0 : Int32)) F dX5_not5_23 (by decide) ?_
  exact g_iret F R rfl rfl dX5_not5_24 ⟨_, _, rfl, rfl, h⟩
theorem plX5_not5 : kPlain yX5_not5 0 = true := by decide +kernel
theorem rX5_X5_not5 {z : kZ} {cc : ByteArray} {nL : Nat} {rm : Room} {c n pc : Nat} {lv : List (Nat × Value)} {st : List Value} {a : Nat → Nat} {E : va_W} {σ : kS} {Q : Int32 → kS → Prop} (F : kF z cc RX5 nL rm) (hd : decode cc pc = .ok (.invokevirtual 228, 3)) (hf : kFits rm 7 196 0 0 4 c n st = true) (h : wX5_not5 σ Q) (k : ∀ (v : Int32) (σ' : kS), Q v σ' → kV z (mW (zg z) a E σ') c n (pc + 3) lv (.int v :: st)) : kV z (mW (zg z) a E σ) c n pc lv (.ref (a 0) :: st) := by
  exact g_callV F (av := []) (ctX5_not5 _ _ _ a E h) (ci := 5) (q0 := 0) rfl rfl rfl wq1057 wq1059 wq61 wq114 wq1060 plX5_not5 hd hf (fun r ws' hq => by
    obtain ⟨v, σ', rfl, rfl, hq⟩ := hq
    exact k v σ' hq)
set_option maxRecDepth 20000 in
theorem sX5_both5_5 {z : kZ} {a : Nat → Nat} {E : va_W}  {Q : Int32 → kS → Prop} {l1 : Int32} {σ : kS} (F : kF z cX5_both5 RX5 3 { frames := 8, cells := 0, slots := 0, locals := 219 }) (R : kR z (some .int) 0 0 (kPi (mW (zg z) a E) Q)) (h : wX5_both5_5 Q l1 σ) : kV z (mW (zg z) a E σ) 0 0 5 [(0, .ref (a 0)), (1, .int l1)] [] := by
  unfold wX5_both5_5 at h
  refine h (fun σ l1 => kV z (mW (zg z) a E σ) 0 0 5 [(0, .ref (a 0)), (1, .int l1)] []) (fun σ l1 h => ?_)
  refine g_aload_n F dX5_both5_5 0 rfl ?_
  refine g_bipush (v := (97 : Int32)) F dX5_both5_6 (by decide) ?_
  refine g_bipush (v := (110 : Int32)) F dX5_both5_8 (by decide) ?_
  refine g_bipush (v := (100 : Int32)) F dX5_both5_10 (by decide) ?_
  refine g_iconst (v := (0 : Int32)) F dX5_both5_12 (by decide) ?_
  refine g_iconst (v := (0 : Int32)) F dX5_both5_13 (by decide) ?_
  refine g_iconst (v := (0 : Int32)) F dX5_both5_14 (by decide) ?_
  refine g_iconst (v := (0 : Int32)) F dX5_both5_15 (by decide) ?_
  refine g_iconst (v := (0 : Int32)) F dX5_both5_16 (by decide) ?_
  refine rX5_X5_isWord F dX5_both5_17 rfl h (fun r4 s3 h => ?_)
  refine g_if_eq F dX5_both5_20 (tgt := 49) (by decide) (fun c5 => ?_) (fun c5 => ?_)
  · replace h := h.1 c5
    refine g_iload_n F dX5_both5_49 1 rfl ?_
    exact g_iret F R rfl rfl dX5_both5_50 ⟨_, _, rfl, rfl, h⟩
  replace h := h.2 c5
  refine g_aload_n F dX5_both5_23 0 rfl ?_
  refine rX5_X5_next F dX5_both5_24 rfl h (fun s6 h => ?_)
  refine g_aload_n F dX5_both5_27 0 rfl ?_
  refine rX5_X5_not5 F dX5_both5_28 rfl h (fun r8 s7 h => ?_)
  refine g_istore_n (lv' := [(2, .int r8), (0, .ref (a 0)), (1, .int l1)]) F dX5_both5_31 rfl rfl ?_
  refine g_iload_n F dX5_both5_32 2 rfl ?_
  refine g_if_eq F dX5_both5_33 (tgt := 44) (by decide) (fun c9 => ?_) (fun c9 => ?_)
  · replace h := h.1 c9
    refine g_iconst (v := (0 : Int32)) F dX5_both5_44 (by decide) ?_
    refine g_istore_n (lv' := [(1, .int (0 : Int32)), (2, .int r8), (0, .ref (a 0))]) F dX5_both5_45 rfl rfl ?_
    refine g_goto F dX5_both5_46 (tgt := 5) (by decide) ?_
    exact (g_sub [2, 0] rfl h)
  replace h := h.2 c9
  refine g_iload_n F dX5_both5_36 0 rfl ?_
  refine g_if_eq F dX5_both5_37 (tgt := 44) (by decide) (fun c10 => ?_) (fun c10 => ?_)
  · replace h := h.1 c10
    refine g_iconst (v := (0 : Int32)) F dX5_both5_44 (by decide) ?_
    refine g_istore_n (lv' := [(1, .int (0 : Int32)), (2, .int r8), (0, .ref (a 0))]) F dX5_both5_45 rfl rfl ?_
    refine g_goto F dX5_both5_46 (tgt := 5) (by decide) ?_
    exact (g_sub [2, 0] rfl h)
  replace h := h.2 c10
  refine g_iconst (v := (1 : Int32)) F dX5_both5_40 (by decide) ?_
  refine g_goto F dX5_both5_41 (tgt := 45) (by decide) ?_
  refine g_istore_n (lv' := [(1, .int (1 : Int32)), (2, .int r8), (0, .ref (a 0))]) F dX5_both5_45 rfl rfl ?_
  refine g_goto F dX5_both5_46 (tgt := 5) (by decide) ?_
  exact (g_sub [2, 0] rfl h)
set_option maxRecDepth 20000 in
theorem ctX5_both5 (l : Launch) (g : kG) (A : Nat → Prop) (a : Nat → Nat) (E : va_W) {σ : kS} {Q : Int32 → kS → Prop} (h : wX5_both5 σ Q) : kCt l yX5_both5 cX5_both5 3 (some .int) 8 219 0 0 g A [.ref (a 0)] (mW g a E σ) (kPi (mW g a E) Q) := by
  refine kCt.of (lv0 := [(0, .ref (a 0))]) (by decide +kernel) (Nat.le_of_ble_eq_true rfl) rfl (fun z hl hg hA F R => ?_)
  subst hl hg hA
  have F : kF z cX5_both5 RX5 3 { frames := 8, cells := 0, slots := 0, locals := 219 } := F
  unfold wX5_both5 at h
  refine g_aload_n F dX5_both5_0 0 rfl ?_
  refine rX5_X5_not5 F dX5_both5_1 rfl h (fun r2 s1 h => ?_)
  refine g_istore_n (lv' := [(1, .int r2), (0, .ref (a 0))]) F dX5_both5_4 rfl rfl ?_
  exact g_sub [1, 0] rfl (sX5_both5_5 F R h)
theorem plX5_both5 : kPlain yX5_both5 0 = true := by decide +kernel
theorem rX5_X5_both5 {z : kZ} {cc : ByteArray} {nL : Nat} {rm : Room} {c n pc : Nat} {lv : List (Nat × Value)} {st : List Value} {a : Nat → Nat} {E : va_W} {σ : kS} {Q : Int32 → kS → Prop} (F : kF z cc RX5 nL rm) (hd : decode cc pc = .ok (.invokevirtual 231, 3)) (hf : kFits rm 8 219 0 0 3 c n st = true) (h : wX5_both5 σ Q) (k : ∀ (v : Int32) (σ' : kS), Q v σ' → kV z (mW (zg z) a E σ') c n (pc + 3) lv (.int v :: st)) : kV z (mW (zg z) a E σ) c n pc lv (.ref (a 0) :: st) := by
  exact g_callV F (av := []) (ctX5_both5 _ _ _ a E h) (ci := 5) (q0 := 0) rfl rfl rfl wq1099 wq1101 wq71 wq114 wq1102 plX5_both5 hd hf (fun r ws' hq => by
    obtain ⟨v, σ', rfl, rfl, hq⟩ := hq
    exact k v σ' hq)
set_option maxRecDepth 20000 in
theorem sX5_either5_5 {z : kZ} {a : Nat → Nat} {E : va_W}  {Q : Int32 → kS → Prop} {l1 : Int32} {σ : kS} (F : kF z cX5_either5 RX5 3 { frames := 9, cells := 0, slots := 0, locals := 241 }) (R : kR z (some .int) 0 0 (kPi (mW (zg z) a E) Q)) (h : wX5_either5_5 Q l1 σ) : kV z (mW (zg z) a E σ) 0 0 5 [(0, .ref (a 0)), (1, .int l1)] [] := by
  unfold wX5_either5_5 at h
  refine h (fun σ l1 => kV z (mW (zg z) a E σ) 0 0 5 [(0, .ref (a 0)), (1, .int l1)] []) (fun σ l1 h => ?_)
  refine g_aload_n F dX5_either5_5 0 rfl ?_
  refine g_bipush (v := (111 : Int32)) F dX5_either5_6 (by decide) ?_
  refine g_bipush (v := (114 : Int32)) F dX5_either5_8 (by decide) ?_
  refine g_iconst (v := (0 : Int32)) F dX5_either5_10 (by decide) ?_
  refine g_iconst (v := (0 : Int32)) F dX5_either5_11 (by decide) ?_
  refine g_iconst (v := (0 : Int32)) F dX5_either5_12 (by decide) ?_
  refine g_iconst (v := (0 : Int32)) F dX5_either5_13 (by decide) ?_
  refine g_iconst (v := (0 : Int32)) F dX5_either5_14 (by decide) ?_
  refine g_iconst (v := (0 : Int32)) F dX5_either5_15 (by decide) ?_
  refine rX5_X5_isWord F dX5_either5_16 rfl h (fun r4 s3 h => ?_)
  refine g_if_eq F dX5_either5_19 (tgt := 48) (by decide) (fun c5 => ?_) (fun c5 => ?_)
  · replace h := h.1 c5
    refine g_iload_n F dX5_either5_48 1 rfl ?_
    exact g_iret F R rfl rfl dX5_either5_49 ⟨_, _, rfl, rfl, h⟩
  replace h := h.2 c5
  refine g_aload_n F dX5_either5_22 0 rfl ?_
  refine rX5_X5_next F dX5_either5_23 rfl h (fun s6 h => ?_)
  refine g_aload_n F dX5_either5_26 0 rfl ?_
  refine rX5_X5_both5 F dX5_either5_27 rfl h (fun r8 s7 h => ?_)
  refine g_istore_n (lv' := [(2, .int r8), (0, .ref (a 0)), (1, .int l1)]) F dX5_either5_30 rfl rfl ?_
  refine g_iload_n F dX5_either5_31 2 rfl ?_
  refine g_if_ne F dX5_either5_32 (tgt := 39) (by decide) (fun c9 => ?_) (fun c9 => ?_)
  · replace h := h.1 c9
    refine g_iconst (v := (1 : Int32)) F dX5_either5_39 (by decide) ?_
    refine g_goto F dX5_either5_40 (tgt := 44) (by decide) ?_
    refine g_istore_n (lv' := [(1, .int (1 : Int32)), (2, .int r8), (0, .ref (a 0))]) F dX5_either5_44 rfl rfl ?_
    refine g_goto F dX5_either5_45 (tgt := 5) (by decide) ?_
    exact (g_sub [2, 0] rfl h)
  replace h := h.2 c9
  refine g_iload_n F dX5_either5_35 0 rfl ?_
  refine g_if_eq F dX5_either5_36 (tgt := 43) (by decide) (fun c10 => ?_) (fun c10 => ?_)
  · replace h := h.1 c10
    refine g_iconst (v := (0 : Int32)) F dX5_either5_43 (by decide) ?_
    refine g_istore_n (lv' := [(1, .int (0 : Int32)), (2, .int r8), (0, .ref (a 0))]) F dX5_either5_44 rfl rfl ?_
    refine g_goto F dX5_either5_45 (tgt := 5) (by decide) ?_
    exact (g_sub [2, 0] rfl h)
  replace h := h.2 c10
  refine g_iconst (v := (1 : Int32)) F dX5_either5_39 (by decide) ?_
  refine g_goto F dX5_either5_40 (tgt := 44) (by decide) ?_
  refine g_istore_n (lv' := [(1, .int (1 : Int32)), (2, .int r8), (0, .ref (a 0))]) F dX5_either5_44 rfl rfl ?_
  refine g_goto F dX5_either5_45 (tgt := 5) (by decide) ?_
  exact (g_sub [2, 0] rfl h)
set_option maxRecDepth 20000 in
theorem ctX5_either5 (l : Launch) (g : kG) (A : Nat → Prop) (a : Nat → Nat) (E : va_W) {σ : kS} {Q : Int32 → kS → Prop} (h : wX5_either5 σ Q) : kCt l yX5_either5 cX5_either5 3 (some .int) 9 241 0 0 g A [.ref (a 0)] (mW g a E σ) (kPi (mW g a E) Q) := by
  refine kCt.of (lv0 := [(0, .ref (a 0))]) (by decide +kernel) (Nat.le_of_ble_eq_true rfl) rfl (fun z hl hg hA F R => ?_)
  subst hl hg hA
  have F : kF z cX5_either5 RX5 3 { frames := 9, cells := 0, slots := 0, locals := 241 } := F
  unfold wX5_either5 at h
  refine g_aload_n F dX5_either5_0 0 rfl ?_
  refine rX5_X5_both5 F dX5_either5_1 rfl h (fun r2 s1 h => ?_)
  refine g_istore_n (lv' := [(1, .int r2), (0, .ref (a 0))]) F dX5_either5_4 rfl rfl ?_
  exact g_sub [1, 0] rfl (sX5_either5_5 F R h)
theorem plX5_either5 : kPlain yX5_either5 0 = true := by decide +kernel
theorem rX5_X5_either5 {z : kZ} {cc : ByteArray} {nL : Nat} {rm : Room} {c n pc : Nat} {lv : List (Nat × Value)} {st : List Value} {a : Nat → Nat} {E : va_W} {σ : kS} {Q : Int32 → kS → Prop} (F : kF z cc RX5 nL rm) (hd : decode cc pc = .ok (.invokevirtual 234, 3)) (hf : kFits rm 9 241 0 0 3 c n st = true) (h : wX5_either5 σ Q) (k : ∀ (v : Int32) (σ' : kS), Q v σ' → kV z (mW (zg z) a E σ') c n (pc + 3) lv (.int v :: st)) : kV z (mW (zg z) a E σ) c n pc lv (.ref (a 0) :: st) := by
  exact g_callV F (av := []) (ctX5_either5 _ _ _ a E h) (ci := 5) (q0 := 0) rfl rfl rfl wq1095 wq1097 wq70 wq114 wq1098 plX5_either5 hd hf (fun r ws' hq => by
    obtain ⟨v, σ', rfl, rfl, hq⟩ := hq
    exact k v σ' hq)
set_option maxRecDepth 20000 in
theorem sX5_atom4_157 {z : kZ} {a : Nat → Nat} {E : va_W}  {Q : Int32 → kS → Prop} {l1 : Int32} {σ : kS} (F : kF z cX5_atom4 RX5 2 { frames := 10, cells := 0, slots := 0, locals := 263 }) (R : kR z (some .int) 0 0 (kPi (mW (zg z) a E) Q)) (h : wX5_atom4_157 Q l1 σ) : kV z (mW (zg z) a E σ) 0 0 157 [(0, .ref (a 0)), (1, .int l1)] [] := by
  unfold wX5_atom4_157 at h
  refine g_aload_n F dX5_atom4_157 0 rfl ?_
  refine rX5_X5_fail F dX5_atom4_158 rfl h (fun s36 h => ?_)
  refine g_iload_n F dX5_atom4_161 1 rfl ?_
  exact g_iret F R rfl rfl dX5_atom4_162 ⟨_, _, rfl, rfl, h⟩
set_option maxRecDepth 20000 in
theorem sX5_atom4_123 {z : kZ} {a : Nat → Nat} {E : va_W}  {Q : Int32 → kS → Prop} {l1 : Int32} {σ : kS} (F : kF z cX5_atom4 RX5 2 { frames := 10, cells := 0, slots := 0, locals := 263 }) (R : kR z (some .int) 0 0 (kPi (mW (zg z) a E) Q)) (h : wX5_atom4_123 Q l1 σ) : kV z (mW (zg z) a E σ) 0 0 123 [(0, .ref (a 0)), (1, .int l1)] [] := by
  unfold wX5_atom4_123 at h
  refine g_aload_n F dX5_atom4_123 0 rfl ?_
  refine rgX5_X5_bad F dX5_atom4_124 ?_
  refine g_if_ne F dX5_atom4_127 (tgt := 157) (by decide) (fun c27 => ?_) (fun c27 => ?_)
  · replace h := h.1 c27
    exact (sX5_atom4_157 F R h)
  replace h := h.2 c27
  refine g_aload_n F dX5_atom4_130 0 rfl ?_
  refine rgX5_X5_token F dX5_atom4_131 ?_
  refine g_iconst (v := (1 : Int32)) F dX5_atom4_134 (by decide) ?_
  refine g_icmp_ne F dX5_atom4_135 (tgt := 157) (by decide) (fun c28 => ?_) (fun c28 => ?_)
  · replace h := h.1 c28
    exact (sX5_atom4_157 F R h)
  replace h := h.2 c28
  refine g_aload_n F dX5_atom4_138 0 rfl ?_
  refine rX5_X5_name F dX5_atom4_139 rfl h (fun r30 s29 h => ?_)
  refine g_istore_n (lv' := [(1, .int r30), (0, .ref (a 0))]) F dX5_atom4_142 rfl rfl ?_
  refine g_aload_n F dX5_atom4_143 1 rfl ?_
  refine rgX5_X5_bad F dX5_atom4_144 ?_
  refine g_if_ne F dX5_atom4_147 (tgt := 161) (by decide) (fun c31 => ?_) (fun c31 => ?_)
  · replace h := h.1 c31
    refine g_iload_n F dX5_atom4_161 0 rfl ?_
    exact g_iret F R rfl rfl dX5_atom4_162 ⟨_, _, rfl, rfl, h⟩
  replace h := h.2 c31
  refine g_aload_n F dX5_atom4_150 1 rfl ?_
  refine rX5_X5_next F dX5_atom4_151 rfl h (fun s32 h => ?_)
  refine g_goto F dX5_atom4_154 (tgt := 161) (by decide) ?_
  refine g_iload_n F dX5_atom4_161 0 rfl ?_
  exact g_iret F R rfl rfl dX5_atom4_162 ⟨_, _, rfl, rfl, h⟩
set_option maxRecDepth 20000 in
theorem sX5_atom4_71 {z : kZ} {a : Nat → Nat} {E : va_W}  {Q : Int32 → kS → Prop} {l1 : Int32} {σ : kS} (F : kF z cX5_atom4 RX5 2 { frames := 10, cells := 0, slots := 0, locals := 263 }) (R : kR z (some .int) 0 0 (kPi (mW (zg z) a E) Q)) (h : wX5_atom4_71 Q l1 σ) : kV z (mW (zg z) a E σ) 0 0 71 [(0, .ref (a 0)), (1, .int l1)] [] := by
  unfold wX5_atom4_71 at h
  refine g_aload_n F dX5_atom4_71 0 rfl ?_
  refine g_dup F dX5_atom4_72 rfl ?_
  refine rgX5_X5_open F dX5_atom4_73 ?_
  refine g_iconst (v := (1 : Int32)) F dX5_atom4_76 (by decide) ?_
  refine g_isub F dX5_atom4_77 ?_
  refine rpX5_X5_open F dX5_atom4_78 ?_
  refine g_name (wf := mW (zg z) a E) (fun s33 es33 => ?_)
  replace h := h s33 es33
  refine g_aload_n F dX5_atom4_81 0 rfl ?_
  refine rgX5_X5_bad F dX5_atom4_82 ?_
  refine g_if_ne F dX5_atom4_85 (tgt := 161) (by decide) (fun c34 => ?_) (fun c34 => ?_)
  · replace h := h.1 c34
    refine g_iload_n F dX5_atom4_161 1 rfl ?_
    exact g_iret F R rfl rfl dX5_atom4_162 ⟨_, _, rfl, rfl, h⟩
  replace h := h.2 c34
  refine g_aload_n F dX5_atom4_88 0 rfl ?_
  refine rX5_X5_next F dX5_atom4_89 rfl h (fun s35 h => ?_)
  refine g_goto F dX5_atom4_92 (tgt := 161) (by decide) ?_
  refine g_iload_n F dX5_atom4_161 1 rfl ?_
  exact g_iret F R rfl rfl dX5_atom4_162 ⟨_, _, rfl, rfl, h⟩
set_option maxRecDepth 20000 in
theorem ctX5_atom4 (l : Launch) (g : kG) (A : Nat → Prop) (a : Nat → Nat) (E : va_W) {σ : kS} {Q : Int32 → kS → Prop} (h : wX5_atom4 σ Q) : kCt l yX5_atom4 cX5_atom4 2 (some .int) 10 263 0 0 g A [.ref (a 0)] (mW g a E σ) (kPi (mW g a E) Q) := by
  refine kCt.of (lv0 := [(0, .ref (a 0))]) (by decide +kernel) (Nat.le_of_ble_eq_true rfl) rfl (fun z hl hg hA F R => ?_)
  subst hl hg hA
  have F : kF z cX5_atom4 RX5 2 { frames := 10, cells := 0, slots := 0, locals := 263 } := F
  unfold wX5_atom4 at h
  refine g_iconst (v := (0 : Int32)) F dX5_atom4_0 (by decide) ?_
  refine g_istore_n (lv' := [(1, .int (0 : Int32)), (0, .ref (a 0))]) F dX5_atom4_1 rfl rfl ?_
  refine g_aload_n F dX5_atom4_2 1 rfl ?_
  refine g_bipush (v := (45 : Int32)) F dX5_atom4_3 (by decide) ?_
  refine rX5_X5_isSign F dX5_atom4_5 rfl h (fun r2 s1 h => ?_)
  refine g_if_eq F dX5_atom4_8 (tgt := 37) (by decide) (fun c3 => ?_) (fun c3 => ?_)
  · replace h := h.1 c3
    refine g_aload_n F dX5_atom4_37 1 rfl ?_
    refine g_bipush (v := (40 : Int32)) F dX5_atom4_38 (by decide) ?_
    refine rX5_X5_isSign F dX5_atom4_40 rfl h (fun r5 s4 h => ?_)
    refine g_if_eq F dX5_atom4_43 (tgt := 95) (by decide) (fun c6 => ?_) (fun c6 => ?_)
    · replace h := h.1 c6
      refine g_aload_n F dX5_atom4_95 1 rfl ?_
      refine rgX5_X5_bad F dX5_atom4_96 ?_
      refine g_if_ne F dX5_atom4_99 (tgt := 123) (by decide) (fun c7 => ?_) (fun c7 => ?_)
      · replace h := h.1 c7
        exact g_sub [1, 0] rfl (sX5_atom4_123 F R h)
      replace h := h.2 c7
      refine g_aload_n F dX5_atom4_102 1 rfl ?_
      refine rgX5_X5_token F dX5_atom4_103 ?_
      refine g_iconst (v := (2 : Int32)) F dX5_atom4_106 (by decide) ?_
      refine g_icmp_ne F dX5_atom4_107 (tgt := 123) (by decide) (fun c8 => ?_) (fun c8 => ?_)
      · replace h := h.1 c8
        exact g_sub [1, 0] rfl (sX5_atom4_123 F R h)
      replace h := h.2 c8
      refine g_aload_n F dX5_atom4_110 1 rfl ?_
      refine rgX5_X5_tokenWorth F dX5_atom4_111 ?_
      refine g_l2i F dX5_atom4_114 ?_
      refine g_topi (fun x9 ex9 => ?_)
      replace h := h x9 ex9
      refine g_istore_n (lv' := [(1, .int x9), (0, .ref (a 0))]) F dX5_atom4_115 rfl rfl ?_
      refine g_aload_n F dX5_atom4_116 1 rfl ?_
      refine rX5_X5_next F dX5_atom4_117 rfl h (fun s10 h => ?_)
      refine g_goto F dX5_atom4_120 (tgt := 161) (by decide) ?_
      refine g_iload_n F dX5_atom4_161 0 rfl ?_
      exact g_iret F R rfl rfl dX5_atom4_162 ⟨_, _, rfl, rfl, h⟩
    replace h := h.2 c6
    refine g_aload_n F dX5_atom4_46 1 rfl ?_
    refine rX5_X5_opens F dX5_atom4_47 rfl h (fun r12 s11 h => ?_)
    refine g_if_eq F dX5_atom4_50 (tgt := 161) (by decide) (fun c13 => ?_) (fun c13 => ?_)
    · replace h := h.1 c13
      refine g_iload_n F dX5_atom4_161 0 rfl ?_
      exact g_iret F R rfl rfl dX5_atom4_162 ⟨_, _, rfl, rfl, h⟩
    replace h := h.2 c13
    refine g_aload_n F dX5_atom4_53 1 rfl ?_
    refine rX5_X5_either5 F dX5_atom4_54 rfl h (fun r15 s14 h => ?_)
    refine g_istore_n (lv' := [(1, .int r15), (0, .ref (a 0))]) F dX5_atom4_57 rfl rfl ?_
    refine g_aload_n F dX5_atom4_58 1 rfl ?_
    refine g_bipush (v := (41 : Int32)) F dX5_atom4_59 (by decide) ?_
    refine rX5_X5_isSign F dX5_atom4_61 rfl h (fun r17 s16 h => ?_)
    refine g_if_ne F dX5_atom4_64 (tgt := 71) (by decide) (fun c18 => ?_) (fun c18 => ?_)
    · replace h := h.1 c18
      exact g_sub [1, 0] rfl (sX5_atom4_71 F R h)
    replace h := h.2 c18
    refine g_aload_n F dX5_atom4_67 1 rfl ?_
    refine rX5_X5_fail F dX5_atom4_68 rfl h (fun s19 h => ?_)
    exact g_sub [1, 0] rfl (sX5_atom4_71 F R h)
  replace h := h.2 c3
  refine g_aload_n F dX5_atom4_11 1 rfl ?_
  refine rX5_X5_opens F dX5_atom4_12 rfl h (fun r21 s20 h => ?_)
  refine g_if_eq F dX5_atom4_15 (tgt := 161) (by decide) (fun c22 => ?_) (fun c22 => ?_)
  · replace h := h.1 c22
    refine g_iload_n F dX5_atom4_161 0 rfl ?_
    exact g_iret F R rfl rfl dX5_atom4_162 ⟨_, _, rfl, rfl, h⟩
  replace h := h.2 c22
  refine g_aload_n F dX5_atom4_18 1 rfl ?_
  refine rX5_X5_atom5 F dX5_atom4_19 rfl h (fun r24 s23 h => ?_)
  refine g_ineg F dX5_atom4_22 ?_
  refine g_topi (fun x25 ex25 => ?_)
  replace h := h x25 ex25
  refine g_istore_n (lv' := [(1, .int x25), (0, .ref (a 0))]) F dX5_atom4_23 rfl rfl ?_
  refine g_aload_n F dX5_atom4_24 1 rfl ?_
  refine g_dup F dX5_atom4_25 rfl ?_
  refine rgX5_X5_open F dX5_atom4_26 ?_
  refine g_iconst (v := (1 : Int32)) F dX5_atom4_29 (by decide) ?_
  refine g_isub F dX5_atom4_30 ?_
  refine rpX5_X5_open F dX5_atom4_31 ?_
  refine g_name (wf := mW (zg z) a E) (fun s26 es26 => ?_)
  replace h := h s26 es26
  refine g_goto F dX5_atom4_34 (tgt := 161) (by decide) ?_
  refine g_iload_n F dX5_atom4_161 0 rfl ?_
  exact g_iret F R rfl rfl dX5_atom4_162 ⟨_, _, rfl, rfl, h⟩
