set_option maxRecDepth 20000 in
theorem ctX2_drop (l : Launch) (g : kG) (A : Nat → Prop) (a : Nat → Nat) (tx : List kTxt) (E : va_W) {l1 : Int32} {σ : kS} {Q : kS → Prop} (h : wX2_drop l1 σ Q) : kCt l yX2_drop cX2_drop 2 none 1 61 0 0 g A [.ref (a 33), .int l1] (xW g a tx E σ) (kPv (xW g a tx E) Q) := by
  refine kCt.of (lv0 := [(0, .ref (a 33)), (1, .int l1)]) (by decide +kernel) (Nat.le_of_ble_eq_true rfl) rfl (fun z hl hg hA F R => ?_)
  subst hl hg hA
  have F : kF z cX2_drop RX2 2 { frames := 1, cells := 0, slots := 0, locals := 61 } := F
  unfold wX2_drop at h
  refine g_aload_n F dX2_drop_0 0 rfl ?_
  refine g_iload_n F dX2_drop_1 1 rfl ?_
  refine rX2_X2_has F dX2_drop_2 rfl h (fun r2 s1 h => ?_)
  refine g_if_eq F dX2_drop_5 (tgt := 22) (by decide) (fun c3 => ?_) (fun c3 => ?_)
  · replace h := h.1 c3
    exact g_vret F R rfl rfl dX2_drop_22 ⟨_, rfl, rfl, h⟩
  replace h := h.2 c3
  refine g_aload_n F dX2_drop_8 0 rfl ?_
  refine rgX2_X2_sorts F dX2_drop_9 ?_
  refine g_iload_n F dX2_drop_12 1 rfl ?_
  refine g_iconst (v := (-1 : Int32)) F dX2_drop_13 (by decide) ?_
  obtain ⟨hc, h⟩ := h
  refine g_iast (wf := xW (zg z) a tx E) F xA39 hc dX2_drop_14 ?_
  refine g_name (wf := xW (zg z) a tx E) (fun s4 es4 => ?_)
  replace h := h s4 es4
  refine g_aload_n F dX2_drop_15 0 rfl ?_
  refine rgX2_X2_sizes F dX2_drop_16 ?_
  refine g_iload_n F dX2_drop_19 1 rfl ?_
  refine g_iconst (v := (0 : Int32)) F dX2_drop_20 (by decide) ?_
  obtain ⟨hc, h⟩ := h
  refine g_iast (wf := xW (zg z) a tx E) F xA40 hc dX2_drop_21 ?_
  refine g_name (wf := xW (zg z) a tx E) (fun s5 es5 => ?_)
  replace h := h s5 es5
  exact g_vret F R rfl rfl dX2_drop_22 ⟨_, rfl, rfl, h⟩
set_option maxRecDepth 20000 in
theorem sX2_make_35 {z : kZ} {a : Nat → Nat} {tx : List kTxt} {E : va_W}  {Q : kS → Prop} {l1 : Int32} {l3 : Int32} {l4 : Int32} {σ : kS} (F : kF z cX2_make RX2 5 { frames := 1, cells := 0, slots := 0, locals := 61 }) (R : kR z none 0 0 (kPv (xW (zg z) a tx E) Q)) (h : wX2_make_35 Q l1 l3 l4 σ) : kV z (xW (zg z) a tx E σ) 0 0 35 [(0, .ref (a 33)), (1, .int l1), (3, .int l3), (4, .int l4)] [] := by
  unfold wX2_make_35 at h
  refine h (fun σ l4 => kV z (xW (zg z) a tx E σ) 0 0 35 [(0, .ref (a 33)), (1, .int l1), (3, .int l3), (4, .int l4)] []) (fun σ l4 h => ?_)
  refine g_iload F dX2_make_35 3 rfl ?_
  refine g_iload_n F dX2_make_37 2 rfl ?_
  refine g_icmp_ge F dX2_make_38 (tgt := 57) (by decide) (fun c8 => ?_) (fun c8 => ?_)
  · replace h := h.1 c8
    exact g_vret F R rfl rfl dX2_make_57 ⟨_, rfl, rfl, h⟩
  replace h := h.2 c8
  refine g_aload_n F dX2_make_41 0 rfl ?_
  refine rgX2_X2_items F dX2_make_42 ?_
  refine g_iload_n F dX2_make_45 1 rfl ?_
  obtain ⟨hc, h⟩ := h
  have hv9 := hc
  refine g_items F hc dX2_make_46 ?_
  refine g_iload F dX2_make_47 3 rfl ?_
  refine g_iconst (v := (0 : Int32)) F dX2_make_49 (by decide) ?_
  obtain ⟨hc, h⟩ := h
  refine g_iast (wf := xW (zg z) a tx E) F (xAR (kLt hv9)) hc dX2_make_50 ?_
  refine g_name (wf := xW (zg z) a tx E) (fun s10 es10 => ?_)
  replace h := h s10 es10
  obtain ⟨x11, ex11⟩ : ∃ q : Int32, q = l4 + (1 : Int32) := ⟨_, rfl⟩
  replace h := h x11 ex11
  refine g_iinc (lv' := [(4, .int x11), (0, .ref (a 33)), (1, .int l1), (3, .int l3)]) (d := (1 : Int32)) F dX2_make_51 rfl 3 rfl (by decide) ex11.symm rfl ?_
  refine g_goto F dX2_make_54 (tgt := 35) (by decide) ?_
  exact (g_sub [1, 2, 3, 0] rfl h)
set_option maxRecDepth 20000 in
theorem ctX2_make (l : Launch) (g : kG) (A : Nat → Prop) (a : Nat → Nat) (tx : List kTxt) (E : va_W) {l1 : Int32} {l2 : Int32} {l3 : Int32} {σ : kS} {Q : kS → Prop} (h : wX2_make l1 l2 l3 σ Q) : kCt l yX2_make cX2_make 5 none 1 61 0 0 g A [.ref (a 33), .int l1, .int l2, .int l3] (xW g a tx E σ) (kPv (xW g a tx E) Q) := by
  refine kCt.of (lv0 := [(0, .ref (a 33)), (1, .int l1), (2, .int l2), (3, .int l3)]) (by decide +kernel) (Nat.le_of_ble_eq_true rfl) rfl (fun z hl hg hA F R => ?_)
  subst hl hg hA
  have F : kF z cX2_make RX2 5 { frames := 1, cells := 0, slots := 0, locals := 61 } := F
  unfold wX2_make at h
  refine g_aload_n F dX2_make_0 0 rfl ?_
  refine g_iload_n F dX2_make_1 1 rfl ?_
  refine rX2_X2_has F dX2_make_2 rfl h (fun r2 s1 h => ?_)
  refine g_if_eq F dX2_make_5 (tgt := 57) (by decide) (fun c3 => ?_) (fun c3 => ?_)
  · replace h := h.1 c3
    exact g_vret F R rfl rfl dX2_make_57 ⟨_, rfl, rfl, h⟩
  replace h := h.2 c3
  refine g_iload_n F dX2_make_8 3 rfl ?_
  refine g_if_lt F dX2_make_9 (tgt := 57) (by decide) (fun c4 => ?_) (fun c4 => ?_)
  · replace h := h.1 c4
    exact g_vret F R rfl rfl dX2_make_57 ⟨_, rfl, rfl, h⟩
  replace h := h.2 c4
  refine g_iload_n F dX2_make_12 3 rfl ?_
  refine g_bipush (v := (40 : Int32)) F dX2_make_13 (by decide) ?_
  refine g_icmp_gt F dX2_make_15 (tgt := 57) (by decide) (fun c5 => ?_) (fun c5 => ?_)
  · replace h := h.1 c5
    exact g_vret F R rfl rfl dX2_make_57 ⟨_, rfl, rfl, h⟩
  replace h := h.2 c5
  refine g_aload_n F dX2_make_18 0 rfl ?_
  refine rgX2_X2_sorts F dX2_make_19 ?_
  refine g_iload_n F dX2_make_22 1 rfl ?_
  refine g_iload_n F dX2_make_23 2 rfl ?_
  obtain ⟨hc, h⟩ := h
  refine g_iast (wf := xW (zg z) a tx E) F xA39 hc dX2_make_24 ?_
  refine g_name (wf := xW (zg z) a tx E) (fun s6 es6 => ?_)
  replace h := h s6 es6
  refine g_aload_n F dX2_make_25 0 rfl ?_
  refine rgX2_X2_sizes F dX2_make_26 ?_
  refine g_iload_n F dX2_make_29 1 rfl ?_
  refine g_iload_n F dX2_make_30 3 rfl ?_
  obtain ⟨hc, h⟩ := h
  refine g_iast (wf := xW (zg z) a tx E) F xA40 hc dX2_make_31 ?_
  refine g_name (wf := xW (zg z) a tx E) (fun s7 es7 => ?_)
  replace h := h s7 es7
  refine g_iconst (v := (0 : Int32)) F dX2_make_32 (by decide) ?_
  refine g_istore (lv' := [(4, .int (0 : Int32)), (0, .ref (a 33)), (1, .int l1), (2, .int l2), (3, .int l3)]) F dX2_make_33 rfl rfl ?_
  exact g_sub [1, 2, 4, 0] rfl (sX2_make_35 F R h)
theorem plX2_hasItem : kPlain yX2_hasItem 2 = true := by decide +kernel
theorem rX2_X2_hasItem {z : kZ} {cc : ByteArray} {nL : Nat} {rm : Room} {c n pc : Nat} {lv : List (Nat × Value)} {st : List Value} {a : Nat → Nat} {tx : List kTxt} {E : va_W} {σ : kS} {l1 : Int32} {l2 : Int32} {Q : Int32 → kS → Prop} (F : kF z cc RX2 nL rm) (hd : decode cc pc = .ok (.invokevirtual 31, 3)) (hf : kFits rm 2 82 0 0 3 c n st = true) (h : wX2_hasItem l1 l2 σ Q) (k : ∀ (v : Int32) (σ' : kS), Q v σ' → kV z (xW (zg z) a tx E σ') c n (pc + 3) lv (.int v :: st)) : kV z (xW (zg z) a tx E σ) c n pc lv (.int l2 :: .int l1 :: .ref (a 33) :: st) := by
  exact g_callV F (av := [.int l1, .int l2]) (ctX2_hasItem _ _ _ a tx E h) (ci := 2) (q0 := 33) rfl rfl rfl wq687 wq688 wq689 wq113 wq690 plX2_hasItem hd hf (fun r ws' hq => by
    obtain ⟨v, σ', rfl, rfl, hq⟩ := hq
    exact k v σ' hq)
set_option maxRecDepth 20000 in
theorem ctX2_at (l : Launch) (g : kG) (A : Nat → Prop) (a : Nat → Nat) (tx : List kTxt) (E : va_W) {l1 : Int32} {l2 : Int32} {σ : kS} {Q : Int32 → kS → Prop} (h : wX2_at l1 l2 σ Q) : kCt l yX2_at cX2_at 3 (some .int) 3 104 0 0 g A [.ref (a 33), .int l1, .int l2] (xW g a tx E σ) (kPi (xW g a tx E) Q) := by
  refine kCt.of (lv0 := [(0, .ref (a 33)), (1, .int l1), (2, .int l2)]) (by decide +kernel) (Nat.le_of_ble_eq_true rfl) rfl (fun z hl hg hA F R => ?_)
  subst hl hg hA
  have F : kF z cX2_at RX2 3 { frames := 3, cells := 0, slots := 0, locals := 104 } := F
  unfold wX2_at at h
  refine g_aload_n F dX2_at_0 0 rfl ?_
  refine g_iload_n F dX2_at_1 1 rfl ?_
  refine g_iload_n F dX2_at_2 2 rfl ?_
  refine rX2_X2_hasItem F dX2_at_3 rfl h (fun r2 s1 h => ?_)
  refine g_if_eq F dX2_at_6 (tgt := 20) (by decide) (fun c3 => ?_) (fun c3 => ?_)
  · replace h := h.1 c3
    refine g_iconst (v := (0 : Int32)) F dX2_at_20 (by decide) ?_
    exact g_iret F R rfl rfl dX2_at_21 ⟨_, _, rfl, rfl, h⟩
  replace h := h.2 c3
  refine g_aload_n F dX2_at_9 0 rfl ?_
  refine rgX2_X2_items F dX2_at_10 ?_
  refine g_iload_n F dX2_at_13 1 rfl ?_
  obtain ⟨hc, h⟩ := h
  have hv4 := hc
  refine g_items F hc dX2_at_14 ?_
  refine g_iload_n F dX2_at_15 2 rfl ?_
  obtain ⟨hc, h⟩ := h
  refine g_iald (wf := xW (zg z) a tx E) F (xAR (kLt hv4)) hc dX2_at_16 ?_
  refine g_goto F dX2_at_17 (tgt := 21) (by decide) ?_
  exact g_iret F R rfl rfl dX2_at_21 ⟨_, _, rfl, rfl, h⟩
set_option maxRecDepth 20000 in
theorem ctX2_narrowed (l : Launch) (g : kG) (A : Nat → Prop) (ws : va_W) {l0 : Int32} {l1 : Int32} {Q : Int32 → Prop} (h : wX2_narrowed l0 l1 Q) : kCt l yX2_narrowed cX2_narrowed 2 (some .int) 0 40 0 0 g A [.int l0, .int l1] ws (kTi ws Q) := by
  refine kCt.of (lv0 := [(0, .int l0), (1, .int l1)]) (by decide +kernel) (Nat.le_of_ble_eq_true rfl) rfl (fun z hl hg hA F R => ?_)
  subst hl hg hA
  have F : kF z cX2_narrowed RX2 2 { frames := 0, cells := 0, slots := 0, locals := 40 } := F
  unfold wX2_narrowed at h
  refine g_iload_n F dX2_narrowed_0 0 rfl ?_
  refine g_if_ne F dX2_narrowed_1 (tgt := 7) (by decide) (fun c1 => ?_) (fun c1 => ?_)
  · replace h := h.1 c1
    refine g_iload_n F dX2_narrowed_7 0 rfl ?_
    refine g_iconst (v := (1 : Int32)) F dX2_narrowed_8 (by decide) ?_
    refine g_icmp_ne F dX2_narrowed_9 (tgt := 17) (by decide) (fun c2 => ?_) (fun c2 => ?_)
    · replace h := h.1 c2
      refine g_iload_n F dX2_narrowed_17 1 rfl ?_
      exact g_iret F R rfl rfl dX2_narrowed_18 ⟨_, rfl, rfl, h⟩
    replace h := h.2 c2
    refine g_iload_n F dX2_narrowed_12 1 rfl ?_
    refine g_i2s F dX2_narrowed_13 ?_
    refine g_goto F dX2_narrowed_14 (tgt := 18) (by decide) ?_
    exact g_iret F R rfl rfl dX2_narrowed_18 ⟨_, rfl, rfl, h⟩
  replace h := h.2 c1
  refine g_iload_n F dX2_narrowed_4 1 rfl ?_
  refine g_i2b F dX2_narrowed_5 ?_
  exact g_iret F R rfl rfl dX2_narrowed_6 ⟨_, rfl, rfl, h⟩
theorem plX2_narrowed : kPlain yX2_narrowed 2 = true := by decide +kernel
theorem rX2_X2_narrowed {z : kZ} {cc : ByteArray} {nL : Nat} {rm : Room} {c n pc : Nat} {lv : List (Nat × Value)} {st : List Value} {ws : va_W} {l0 : Int32} {l1 : Int32} {Q : Int32 → Prop} (F : kF z cc RX2 nL rm) (hd : decode cc pc = .ok (.invokestatic 35, 3)) (hf : kFits rm 0 40 0 0 2 c n st = true) (h : wX2_narrowed l0 l1 Q) (k : ∀ v : Int32, Q v → kV z ws c n (pc + 3) lv (.int v :: st)) : kV z ws c n pc lv (.int l1 :: .int l0 :: st) := g_callS F (av := [.int l0, .int l1]) (ctX2_narrowed _ _ _ ws h) wq719 wq720 wq113 wq721 plX2_narrowed hd hf (fun r ws' hq => by
    obtain ⟨v, rfl, rfl, hq⟩ := hq
    exact k v hq)
set_option maxRecDepth 20000 in
theorem ctX2_put (l : Launch) (g : kG) (A : Nat → Prop) (a : Nat → Nat) (tx : List kTxt) (E : va_W) {l1 : Int32} {l2 : Int32} {l3 : Int32} {σ : kS} {Q : kS → Prop} (h : wX2_put l1 l2 l3 σ Q) : kCt l yX2_put cX2_put 4 none 3 104 0 0 g A [.ref (a 33), .int l1, .int l2, .int l3] (xW g a tx E σ) (kPv (xW g a tx E) Q) := by
  refine kCt.of (lv0 := [(0, .ref (a 33)), (1, .int l1), (2, .int l2), (3, .int l3)]) (by decide +kernel) (Nat.le_of_ble_eq_true rfl) rfl (fun z hl hg hA F R => ?_)
  subst hl hg hA
  have F : kF z cX2_put RX2 4 { frames := 3, cells := 0, slots := 0, locals := 104 } := F
  unfold wX2_put at h
  refine g_aload_n F dX2_put_0 0 rfl ?_
  refine g_iload_n F dX2_put_1 1 rfl ?_
  refine g_iload_n F dX2_put_2 2 rfl ?_
  refine rX2_X2_hasItem F dX2_put_3 rfl h (fun r2 s1 h => ?_)
  refine g_if_eq F dX2_put_6 (tgt := 27) (by decide) (fun c3 => ?_) (fun c3 => ?_)
  · replace h := h.1 c3
    exact g_vret F R rfl rfl dX2_put_27 ⟨_, rfl, rfl, h⟩
  replace h := h.2 c3
  refine g_aload_n F dX2_put_9 0 rfl ?_
  refine rgX2_X2_items F dX2_put_10 ?_
  refine g_iload_n F dX2_put_13 1 rfl ?_
  obtain ⟨hc, h⟩ := h
  have hv4 := hc
  refine g_items F hc dX2_put_14 ?_
  refine g_iload_n F dX2_put_15 2 rfl ?_
  refine g_aload_n F dX2_put_16 0 rfl ?_
  refine rgX2_X2_sorts F dX2_put_17 ?_
  refine g_iload_n F dX2_put_20 1 rfl ?_
  obtain ⟨hc, h⟩ := h
  refine g_iald (wf := xW (zg z) a tx E) F xA39 hc dX2_put_21 ?_
  refine g_iload_n F dX2_put_22 3 rfl ?_
  refine rX2_X2_narrowed F dX2_put_23 rfl h (fun r5 h => ?_)
  obtain ⟨hc, h⟩ := h
  refine g_iast (wf := xW (zg z) a tx E) F (xAR (kLt hv4)) hc dX2_put_26 ?_
  refine g_name (wf := xW (zg z) a tx E) (fun s6 es6 => ?_)
  replace h := h s6 es6
  exact g_vret F R rfl rfl dX2_put_27 ⟨_, rfl, rfl, h⟩
theorem plX2_hasItems : kPlain yX2_hasItems 3 = true := by decide +kernel
theorem rX2_X2_hasItems {z : kZ} {cc : ByteArray} {nL : Nat} {rm : Room} {c n pc : Nat} {lv : List (Nat × Value)} {st : List Value} {a : Nat → Nat} {tx : List kTxt} {E : va_W} {σ : kS} {l1 : Int32} {l2 : Int32} {l3 : Int32} {Q : Int32 → kS → Prop} (F : kF z cc RX2 nL rm) (hd : decode cc pc = .ok (.invokevirtual 39, 3)) (hf : kFits rm 2 82 0 0 4 c n st = true) (h : wX2_hasItems l1 l2 l3 σ Q) (k : ∀ (v : Int32) (σ' : kS), Q v σ' → kV z (xW (zg z) a tx E σ') c n (pc + 3) lv (.int v :: st)) : kV z (xW (zg z) a tx E σ) c n pc lv (.int l3 :: .int l2 :: .int l1 :: .ref (a 33) :: st) := by
  exact g_callV F (av := [.int l1, .int l2, .int l3]) (ctX2_hasItems _ _ _ a tx E h) (ci := 2) (q0 := 33) rfl rfl rfl wq788 wq781 wq782 wq113 wq783 plX2_hasItems hd hf (fun r ws' hq => by
    obtain ⟨v, σ', rfl, rfl, hq⟩ := hq
    exact k v σ' hq)
set_option maxRecDepth 20000 in
theorem ctX2_move (l : Launch) (g : kG) (A : Nat → Prop) (a : Nat → Nat) (tx : List kTxt) (E : va_W) {l1 : Int32} {l2 : Int32} {l3 : Int32} {l4 : Int32} {l5 : Int32} {σ : kS} {Q : kS → Prop} (h : wX2_move l1 l2 l3 l4 l5 σ Q) : kCt l yX2_move cX2_move 6 none 3 105 0 0 g A [.ref (a 33), .int l1, .int l2, .int l3, .int l4, .int l5] (xW g a tx E σ) (kPv (xW g a tx E) Q) := by
  refine kCt.of (lv0 := [(0, .ref (a 33)), (1, .int l1), (2, .int l2), (3, .int l3), (4, .int l4), (5, .int l5)]) (by decide +kernel) (Nat.le_of_ble_eq_true rfl) rfl (fun z hl hg hA F R => ?_)
  subst hl hg hA
  have F : kF z cX2_move RX2 6 { frames := 3, cells := 0, slots := 0, locals := 105 } := F
  unfold wX2_move at h
  refine g_aload_n F dX2_move_0 0 rfl ?_
  refine g_iload_n F dX2_move_1 1 rfl ?_
  refine g_iload_n F dX2_move_2 2 rfl ?_
  refine g_iload F dX2_move_3 5 rfl ?_
  refine rX2_X2_hasItems F dX2_move_5 rfl h (fun r2 s1 h => ?_)
  refine g_if_eq F dX2_move_8 (tgt := 43) (by decide) (fun c3 => ?_) (fun c3 => ?_)
  · replace h := h.1 c3
    exact g_vret F R rfl rfl dX2_move_43 ⟨_, rfl, rfl, h⟩
  replace h := h.2 c3
  refine g_aload_n F dX2_move_11 0 rfl ?_
  refine g_iload_n F dX2_move_12 3 rfl ?_
  refine g_iload F dX2_move_13 4 rfl ?_
  refine g_iload F dX2_move_15 5 rfl ?_
  refine rX2_X2_hasItems F dX2_move_17 rfl h (fun r5 s4 h => ?_)
  refine g_if_eq F dX2_move_20 (tgt := 43) (by decide) (fun c6 => ?_) (fun c6 => ?_)
  · replace h := h.1 c6
    exact g_vret F R rfl rfl dX2_move_43 ⟨_, rfl, rfl, h⟩
  replace h := h.2 c6
  refine g_aload_n F dX2_move_23 0 rfl ?_
  refine rgX2_X2_items F dX2_move_24 ?_
  refine g_iload_n F dX2_move_27 1 rfl ?_
  obtain ⟨hc, h⟩ := h
  have hv7 := hc
  refine g_items F hc dX2_move_28 ?_
  refine g_iload_n F dX2_move_29 2 rfl ?_
  refine g_aload_n F dX2_move_30 0 rfl ?_
  refine rgX2_X2_items F dX2_move_31 ?_
  refine g_iload_n F dX2_move_34 3 rfl ?_
  obtain ⟨hc, h⟩ := h
  have hv8 := hc
  refine g_items F hc dX2_move_35 ?_
  refine g_iload F dX2_move_36 4 rfl ?_
  refine g_iload F dX2_move_38 5 rfl ?_
  obtain ⟨hc, h⟩ := h
  refine g_copy F wq789 wq511 wq510 wq120 (p0 := (35 + l1.toNatClampNeg)) (p1 := (35 + l3.toNatClampNeg)) ((xAR (kLt hv7)) _).1 ((xAR (kLt hv8)) _).1 hc (((xAR (kLt hv8)) _).2 _) dX2_move_40 rfl ?_
  refine g_name (wf := xW (zg z) a tx E) (fun s9 es9 => ?_)
  replace h := h s9 es9
  exact g_vret F R rfl rfl dX2_move_43 ⟨_, rfl, rfl, h⟩
theorem plX0_has : kPlain yX0_has 2 = true := by decide +kernel
theorem rX4_X0_has {z : kZ} {cc : ByteArray} {nL : Nat} {rm : Room} {c n pc : Nat} {lv : List (Nat × Value)} {st : List Value} {a : Nat → Nat} {tx : List kTxt} {E : va_W} {σ : kS} {b : Nat} {l1 : Int32} {l2 : Int32} {Q : Int32 → kS → Prop} (F : kF z cc RX4 nL rm) (hb : isFen b) (hd : decode cc pc = .ok (.invokevirtual 53, 3)) (hf : kFits rm 1 60 0 0 3 c n st = true) (h : wX0_has b l1 l2 σ Q) (k : ∀ (v : Int32) (σ' : kS), Q v σ' → kV z (xW (zg z) a tx E σ') c n (pc + 3) lv (.int v :: st)) : kV z (xW (zg z) a tx E σ) c n pc lv (.int l2 :: .int l1 :: .ref (a b) :: st) := by
  exact g_callV F (av := [.int l1, .int l2]) (ctX0_has _ _ _ a tx E hb h) (ci := 0) (q0 := b) rfl (xFen_at hb) rfl wq283 wq284 wq285 wq110 wq286 plX0_has hd hf (fun r ws' hq => by
    obtain ⟨v, σ', rfl, rfl, hq⟩ := hq
    exact k v σ' hq)
theorem plX0_most : kPlain yX0_most 1 = true := by decide +kernel
theorem rX4_X0_most {z : kZ} {cc : ByteArray} {nL : Nat} {rm : Room} {c n pc : Nat} {lv : List (Nat × Value)} {st : List Value} {ws : va_W} {l0 : Int32} {Q : Int32 → Prop} (F : kF z cc RX4 nL rm) (hd : decode cc pc = .ok (.invokestatic 57, 3)) (hf : kFits rm 0 40 0 0 1 c n st = true) (h : wX0_most l0 Q) (k : ∀ v : Int32, Q v → kV z ws c n (pc + 3) lv (.int v :: st)) : kV z ws c n pc lv (.int l0 :: st) := g_callS F (av := [.int l0]) (ctX0_most _ _ _ ws h) wq290 wq291 wq110 wq292 plX0_most hd hf (fun r ws' hq => by
    obtain ⟨v, rfl, rfl, hq⟩ := hq
    exact k v hq)
theorem plX0_get : kPlain yX0_get 2 = true := by decide +kernel
theorem rX4_X0_get {z : kZ} {cc : ByteArray} {nL : Nat} {rm : Room} {c n pc : Nat} {lv : List (Nat × Value)} {st : List Value} {a : Nat → Nat} {tx : List kTxt} {E : va_W} {σ : kS} {b : Nat} {l1 : Int32} {l2 : Int32} {Q : Int32 → kS → Prop} (F : kF z cc RX4 nL rm) (hb : isFen b) (hd : decode cc pc = .ok (.invokevirtual 61, 3)) (hf : kFits rm 1 61 0 0 4 c n st = true) (h : wX0_get b l1 l2 σ Q) (k : ∀ (v : Int32) (σ' : kS), Q v σ' → kV z (xW (zg z) a tx E σ') c n (pc + 3) lv (.int v :: st)) : kV z (xW (zg z) a tx E σ) c n pc lv (.int l2 :: .int l1 :: .ref (a b) :: st) := by
  exact g_callV F (av := [.int l1, .int l2]) (ctX0_get _ _ _ a tx E hb h) (ci := 0) (q0 := b) rfl (xFen_at hb) rfl wq295 wq296 wq297 wq110 wq298 plX0_get hd hf (fun r ws' hq => by
    obtain ⟨v, σ', rfl, rfl, hq⟩ := hq
    exact k v σ' hq)
theorem plX0_put : kPlain yX0_put 3 = true := by decide +kernel
theorem rX4_X0_put {z : kZ} {cc : ByteArray} {nL : Nat} {rm : Room} {c n pc : Nat} {lv : List (Nat × Value)} {st : List Value} {a : Nat → Nat} {tx : List kTxt} {E : va_W} {σ : kS} {b : Nat} {l1 : Int32} {l2 : Int32} {l3 : Int32} {Q : kS → Prop} (F : kF z cc RX4 nL rm) (hb : isFen b) (hd : decode cc pc = .ok (.invokevirtual 65, 3)) (hf : kFits rm 1 61 0 0 5 c n st = true) (h : wX0_put b l1 l2 l3 σ Q) (k : ∀ σ' : kS, Q σ' → kV z (xW (zg z) a tx E σ') c n (pc + 3) lv st) : kV z (xW (zg z) a tx E σ) c n pc lv (.int l3 :: .int l2 :: .int l1 :: .ref (a b) :: st) := by
  exact g_callV F (av := [.int l1, .int l2, .int l3]) (ctX0_put _ _ _ a tx E hb h) (ci := 0) (q0 := b) rfl (xFen_at hb) rfl wq303 wq304 wq305 wq110 wq306 plX0_put hd hf (fun r ws' hq => by
    obtain ⟨σ', rfl, rfl, hq⟩ := hq
    exact k σ' hq)
set_option maxRecDepth 20000 in
theorem ctX4_set (l : Launch) (g : kG) (A : Nat → Prop) (a : Nat → Nat) (tx : List kTxt) (E : va_W) {l1 : Int32} {l2 : Int32} {l3 : Int32} {σ : kS} {Q : Int32 → kS → Prop} (h : wX4_set l1 l2 l3 σ Q) : kCt l yX4_set cX4_set 5 (some .int) 2 85 0 0 g A [.ref (a 0), .int l1, .int l2, .int l3] (xW g a tx E σ) (kPi (xW g a tx E) Q) := by
  refine kCt.of (lv0 := [(0, .ref (a 0)), (1, .int l1), (2, .int l2), (3, .int l3)]) (by decide +kernel) (Nat.le_of_ble_eq_true rfl) rfl (fun z hl hg hA F R => ?_)
  subst hl hg hA
  have F : kF z cX4_set RX4 5 { frames := 2, cells := 0, slots := 0, locals := 85 } := F
  unfold wX4_set at h
  refine g_iload_n F dX4_set_0 1 rfl ?_
  refine g_bipush (v := (7 : Int32)) F dX4_set_1 (by decide) ?_
  refine g_icmp_gt F dX4_set_3 (tgt := 30) (by decide) (fun c1 => ?_) (fun c1 => ?_)
  · replace h := h.1 c1
    refine g_bipush (v := (-2 : Int32)) F dX4_set_30 (by decide) ?_
    exact g_iret F R rfl rfl dX4_set_32 ⟨_, _, rfl, rfl, h⟩
  replace h := h.2 c1
  refine g_aload_n F dX4_set_6 0 rfl ?_
  refine rgX4_X4_now F dX4_set_7 ?_
  refine g_iload_n F dX4_set_10 1 rfl ?_
  refine g_iload_n F dX4_set_11 2 rfl ?_
  refine rX4_X0_has F fen3 dX4_set_12 rfl h (fun r3 s2 h => ?_)
  refine g_if_eq F dX4_set_15 (tgt := 30) (by decide) (fun c4 => ?_) (fun c4 => ?_)
  · replace h := h.1 c4
    refine g_bipush (v := (-2 : Int32)) F dX4_set_30 (by decide) ?_
    exact g_iret F R rfl rfl dX4_set_32 ⟨_, _, rfl, rfl, h⟩
  replace h := h.2 c4
  refine g_iload_n F dX4_set_18 3 rfl ?_
  refine g_if_lt F dX4_set_19 (tgt := 30) (by decide) (fun c5 => ?_) (fun c5 => ?_)
  · replace h := h.1 c5
    refine g_bipush (v := (-2 : Int32)) F dX4_set_30 (by decide) ?_
    exact g_iret F R rfl rfl dX4_set_32 ⟨_, _, rfl, rfl, h⟩
  replace h := h.2 c5
  refine g_iload_n F dX4_set_22 3 rfl ?_
  refine g_iload_n F dX4_set_23 1 rfl ?_
  refine rX4_X0_most F dX4_set_24 rfl h (fun r6 h => ?_)
  refine g_icmp_le F dX4_set_27 (tgt := 33) (by decide) (fun c7 => ?_) (fun c7 => ?_)
  · replace h := h.1 c7
    refine g_aload_n F dX4_set_33 0 rfl ?_
    refine rgX4_X4_now F dX4_set_34 ?_
    refine g_iload_n F dX4_set_37 1 rfl ?_
    refine g_iload_n F dX4_set_38 2 rfl ?_
    refine rX4_X0_get F fen3 dX4_set_39 rfl h (fun r9 s8 h => ?_)
    refine g_istore (lv' := [(4, .int r9), (0, .ref (a 0)), (1, .int l1), (2, .int l2), (3, .int l3)]) F dX4_set_42 rfl rfl ?_
    refine g_aload_n F dX4_set_44 1 rfl ?_
    refine rgX4_X4_now F dX4_set_45 ?_
    refine g_iload_n F dX4_set_48 2 rfl ?_
    refine g_iload_n F dX4_set_49 3 rfl ?_
    refine g_iload_n F dX4_set_50 4 rfl ?_
    refine rX4_X0_put F fen3 dX4_set_51 rfl h (fun s10 h => ?_)
    refine g_iload F dX4_set_54 0 rfl ?_
    exact g_iret F R rfl rfl dX4_set_56 ⟨_, _, rfl, rfl, h⟩
  replace h := h.2 c7
  refine g_bipush (v := (-2 : Int32)) F dX4_set_30 (by decide) ?_
  exact g_iret F R rfl rfl dX4_set_32 ⟨_, _, rfl, rfl, h⟩
theorem rX4_X4_isCell {z : kZ} {cc : ByteArray} {nL : Nat} {rm : Room} {c n pc : Nat} {lv : List (Nat × Value)} {st : List Value} {ws : va_W} {l0 : Int32} {Q : Int32 → Prop} (F : kF z cc RX4 nL rm) (hd : decode cc pc = .ok (.invokestatic 107, 3)) (hf : kFits rm 0 40 0 0 1 c n st = true) (h : wX4_isCell l0 Q) (k : ∀ v : Int32, Q v → kV z ws c n (pc + 3) lv (.int v :: st)) : kV z ws c n pc lv (.int l0 :: st) := g_callS F (av := [.int l0]) (ctX4_isCell _ _ _ ws h) wq314 wq288 wq109 wq289 plX4_isCell hd hf (fun r ws' hq => by
    obtain ⟨v, rfl, rfl, hq⟩ := hq
    exact k v hq)
set_option maxRecDepth 20000 in
theorem ctX4_isWork (l : Launch) (g : kG) (A : Nat → Prop) (ws : va_W) {l0 : Int32} {l1 : Int32} {l2 : Int32} {Q : Int32 → Prop} (h : wX4_isWork l0 l1 l2 Q) : kCt l yX4_isWork cX4_isWork 3 (some .boolean) 1 60 0 0 g A [.int l0, .int l1, .int l2] ws (kTi ws Q) := by
  refine kCt.of (lv0 := [(0, .int l0), (1, .int l1), (2, .int l2)]) (by decide +kernel) (Nat.le_of_ble_eq_true rfl) rfl (fun z hl hg hA F R => ?_)
  subst hl hg hA
  have F : kF z cX4_isWork RX4 3 { frames := 1, cells := 0, slots := 0, locals := 60 } := F
  unfold wX4_isWork at h
  refine g_iload_n F dX4_isWork_0 0 rfl ?_
  refine g_if_lt F dX4_isWork_1 (tgt := 31) (by decide) (fun c1 => ?_) (fun c1 => ?_)
  · replace h := h.1 c1
    refine g_iconst (v := (0 : Int32)) F dX4_isWork_31 (by decide) ?_
    exact g_zret F R rfl rfl rfl dX4_isWork_32 ⟨_, rfl, rfl, h⟩
  replace h := h.2 c1
  refine g_iload_n F dX4_isWork_4 0 rfl ?_
  refine g_bipush (v := (6 : Int32)) F dX4_isWork_5 (by decide) ?_
  refine g_icmp_ge F dX4_isWork_7 (tgt := 31) (by decide) (fun c2 => ?_) (fun c2 => ?_)
  · replace h := h.1 c2
    refine g_iconst (v := (0 : Int32)) F dX4_isWork_31 (by decide) ?_
    exact g_zret F R rfl rfl rfl dX4_isWork_32 ⟨_, rfl, rfl, h⟩
  replace h := h.2 c2
  refine g_iload_n F dX4_isWork_10 1 rfl ?_
  refine g_if_lt F dX4_isWork_11 (tgt := 31) (by decide) (fun c3 => ?_) (fun c3 => ?_)
  · replace h := h.1 c3
    refine g_iconst (v := (0 : Int32)) F dX4_isWork_31 (by decide) ?_
    exact g_zret F R rfl rfl rfl dX4_isWork_32 ⟨_, rfl, rfl, h⟩
  replace h := h.2 c3
  refine g_iload_n F dX4_isWork_14 1 rfl ?_
  refine g_bipush (v := (10 : Int32)) F dX4_isWork_15 (by decide) ?_
  refine g_icmp_ge F dX4_isWork_17 (tgt := 31) (by decide) (fun c4 => ?_) (fun c4 => ?_)
  · replace h := h.1 c4
    refine g_iconst (v := (0 : Int32)) F dX4_isWork_31 (by decide) ?_
    exact g_zret F R rfl rfl rfl dX4_isWork_32 ⟨_, rfl, rfl, h⟩
  replace h := h.2 c4
  refine g_iload_n F dX4_isWork_20 2 rfl ?_
  refine rX4_X4_isCell F dX4_isWork_21 rfl h (fun r5 h => ?_)
  refine g_if_eq F dX4_isWork_24 (tgt := 31) (by decide) (fun c6 => ?_) (fun c6 => ?_)
  · replace h := h.1 c6
    refine g_iconst (v := (0 : Int32)) F dX4_isWork_31 (by decide) ?_
    exact g_zret F R rfl rfl rfl dX4_isWork_32 ⟨_, rfl, rfl, h⟩
  replace h := h.2 c6
  refine g_iconst (v := (1 : Int32)) F dX4_isWork_27 (by decide) ?_
  refine g_goto F dX4_isWork_28 (tgt := 32) (by decide) ?_
  exact g_zret F R rfl rfl rfl dX4_isWork_32 ⟨_, rfl, rfl, h⟩
theorem plX4_isWork : kPlain yX4_isWork 3 = true := by decide +kernel
theorem rX4_X4_isWork {z : kZ} {cc : ByteArray} {nL : Nat} {rm : Room} {c n pc : Nat} {lv : List (Nat × Value)} {st : List Value} {ws : va_W} {l0 : Int32} {l1 : Int32} {l2 : Int32} {Q : Int32 → Prop} (F : kF z cc RX4 nL rm) (hd : decode cc pc = .ok (.invokestatic 69, 3)) (hf : kFits rm 1 60 0 0 3 c n st = true) (h : wX4_isWork l0 l1 l2 Q) (k : ∀ v : Int32, Q v → kV z ws c n (pc + 3) lv (.int v :: st)) : kV z ws c n pc lv (.int l2 :: .int l1 :: .int l0 :: st) := g_callS F (av := [.int l0, .int l1, .int l2]) (ctX4_isWork _ _ _ ws h) wq311 wq312 wq109 wq313 plX4_isWork hd hf (fun r ws' hq => by
    obtain ⟨v, rfl, rfl, hq⟩ := hq
    exact k v hq)
theorem plX0_add : kPlain yX0_add 3 = true := by decide +kernel
theorem rX4_X0_add {z : kZ} {cc : ByteArray} {nL : Nat} {rm : Room} {c n pc : Nat} {lv : List (Nat × Value)} {st : List Value} {a : Nat → Nat} {tx : List kTxt} {E : va_W} {σ : kS} {b : Nat} {l1 : Int32} {l2 : Int32} {l3 : Int32} {Q : kS → Prop} (F : kF z cc RX4 nL rm) (hb : isFen b) (hd : decode cc pc = .ok (.invokevirtual 76, 3)) (hf : kFits rm 0 40 0 0 4 c n st = true) (h : wX0_add b l1 l2 l3 σ Q) (k : ∀ σ' : kS, Q σ' → kV z (xW (zg z) a tx E σ') c n (pc + 3) lv st) : kV z (xW (zg z) a tx E σ) c n pc lv (.int l3 :: .int l2 :: .int l1 :: .ref (a b) :: st) := by
  exact g_callV F (av := [.int l1, .int l2, .int l3]) (ctX0_add _ _ _ a tx E hb h) (ci := 0) (q0 := b) rfl (xFen_at hb) rfl wq315 wq316 wq317 wq110 wq318 plX0_add hd hf (fun r ws' hq => by
    obtain ⟨σ', rfl, rfl, hq⟩ := hq
    exact k σ' hq)
set_option maxRecDepth 20000 in
theorem ctX4_work (l : Launch) (g : kG) (A : Nat → Prop) (a : Nat → Nat) (tx : List kTxt) (E : va_W) {l1 : Int32} {l2 : Int32} {l3 : Int32} {σ : kS} {Q : Int32 → kS → Prop} (h : wX4_work l1 l2 l3 σ Q) : kCt l yX4_work cX4_work 4 (some .int) 2 82 0 0 g A [.ref (a 0), .int l1, .int l2, .int l3] (xW g a tx E σ) (kPi (xW g a tx E) Q) := by
  refine kCt.of (lv0 := [(0, .ref (a 0)), (1, .int l1), (2, .int l2), (3, .int l3)]) (by decide +kernel) (Nat.le_of_ble_eq_true rfl) rfl (fun z hl hg hA F R => ?_)
  subst hl hg hA
  have F : kF z cX4_work RX4 4 { frames := 2, cells := 0, slots := 0, locals := 82 } := F
  unfold wX4_work at h
  refine g_iload_n F dX4_work_0 1 rfl ?_
  refine g_iload_n F dX4_work_1 2 rfl ?_
  refine g_iload_n F dX4_work_2 3 rfl ?_
  refine rX4_X4_isWork F dX4_work_3 rfl h (fun r1 h => ?_)
  refine g_if_ne F dX4_work_6 (tgt := 12) (by decide) (fun c2 => ?_) (fun c2 => ?_)
  · replace h := h.1 c2
    refine g_aload_n F dX4_work_12 0 rfl ?_
    refine rgX4_X4_now F dX4_work_13 ?_
    refine rgX4_X0_works fen3 F dX4_work_16 ?_
    refine g_bipush (v := (6 : Int32)) F dX4_work_19 (by decide) ?_
    refine g_icmp_lt F dX4_work_21 (tgt := 27) (by decide) (fun c3 => ?_) (fun c3 => ?_)
    · replace h := h.1 c3
      refine g_aload_n F dX4_work_27 0 rfl ?_
      refine rgX4_X4_now F dX4_work_28 ?_
      refine g_iload_n F dX4_work_31 1 rfl ?_
      refine g_iload_n F dX4_work_32 2 rfl ?_
      refine g_iload_n F dX4_work_33 3 rfl ?_
      refine rX4_X0_add F fen3 dX4_work_34 rfl h (fun s4 h => ?_)
      refine g_aload_n F dX4_work_37 0 rfl ?_
      refine rgX4_X4_now F dX4_work_38 ?_
      refine rgX4_X0_works fen3 F dX4_work_41 ?_
      refine g_iconst (v := (1 : Int32)) F dX4_work_44 (by decide) ?_
      refine g_isub F dX4_work_45 ?_
      exact g_iret F R rfl rfl dX4_work_46 ⟨_, _, rfl, rfl, h⟩
    replace h := h.2 c3
    refine g_bipush (v := (-4 : Int32)) F dX4_work_24 (by decide) ?_
    exact g_iret F R rfl rfl dX4_work_26 ⟨_, _, rfl, rfl, h⟩
  replace h := h.2 c2
  refine g_bipush (v := (-2 : Int32)) F dX4_work_9 (by decide) ?_
  exact g_iret F R rfl rfl dX4_work_11 ⟨_, _, rfl, rfl, h⟩
set_option maxRecDepth 20000 in
theorem ctX4_ruleOf (l : Launch) (g : kG) (A : Nat → Prop) (a : Nat → Nat) (tx : List kTxt) (E : va_W) {b1 : Nat} (hb1 : isFen b1) (hx : ∀ T ∈ tx, xIn g E T) {σ : kS} {Q : kTxt → kS → Prop} (h : wX4_ruleOf tx b1 σ Q) : kCt l yX4_ruleOf cX4_ruleOf 2 (some (.object "DrainedForAThird$Text")) 0 40 0 0 g A [.ref (a 0), .ref (a b1)] (xW g a tx E σ) (kPt (xW g a tx E) g E Q) := by
  refine kCt.of (lv0 := [(0, .ref (a 0)), (1, .ref (a b1))]) (by decide +kernel) (Nat.le_of_ble_eq_true rfl) rfl (fun z hl hg hA F R => ?_)
  subst hl hg hA
  have F : kF z cX4_ruleOf RX4 2 { frames := 0, cells := 0, slots := 0, locals := 40 } := F
  unfold wX4_ruleOf at h
  refine g_aload_n F dX4_ruleOf_0 1 rfl ?_
  refine rgX4_X0_rule hb1 F dX4_ruleOf_1 ?_
  refine g_if_lt F dX4_ruleOf_4 (tgt := 30) (by decide) (fun c1 => ?_) (fun c1 => ?_)
  · replace h := h.1 c1
    refine g_aload_n F dX4_ruleOf_30 0 rfl ?_
    refine rgX4_X4_texts F dX4_ruleOf_31 ?_
    refine g_iconst (v := (0 : Int32)) F dX4_ruleOf_34 (by decide) ?_
    obtain ⟨T2, hT2, h⟩ := h
    refine g_texts F (kIn rfl) hT2 dX4_ruleOf_35 ?_
    exact g_aret F R (Or.inl ⟨_, rfl⟩) (Or.inr ⟨_, rfl⟩) (Nat.le_refl 0) (Nat.le_refl 0) dX4_ruleOf_36 ⟨_, _, rfl, (hx _ (List.mem_of_getElem? hT2)), rfl, h⟩
  replace h := h.2 c1
  refine g_aload_n F dX4_ruleOf_7 1 rfl ?_
  refine rgX4_X0_rule hb1 F dX4_ruleOf_8 ?_
  refine g_aload_n F dX4_ruleOf_11 0 rfl ?_
  refine rgX4_X4_textCount F dX4_ruleOf_12 ?_
  refine g_icmp_ge F dX4_ruleOf_15 (tgt := 30) (by decide) (fun c3 => ?_) (fun c3 => ?_)
  · replace h := h.1 c3
    refine g_aload_n F dX4_ruleOf_30 0 rfl ?_
    refine rgX4_X4_texts F dX4_ruleOf_31 ?_
    refine g_iconst (v := (0 : Int32)) F dX4_ruleOf_34 (by decide) ?_
    obtain ⟨T4, hT4, h⟩ := h
    refine g_texts F (kIn rfl) hT4 dX4_ruleOf_35 ?_
    exact g_aret F R (Or.inl ⟨_, rfl⟩) (Or.inr ⟨_, rfl⟩) (Nat.le_refl 0) (Nat.le_refl 0) dX4_ruleOf_36 ⟨_, _, rfl, (hx _ (List.mem_of_getElem? hT4)), rfl, h⟩
  replace h := h.2 c3
  refine g_aload_n F dX4_ruleOf_18 0 rfl ?_
  refine rgX4_X4_texts F dX4_ruleOf_19 ?_
  refine g_aload_n F dX4_ruleOf_22 1 rfl ?_
  refine rgX4_X0_rule hb1 F dX4_ruleOf_23 ?_
  obtain ⟨hc, h⟩ := h
  obtain ⟨T5, hT5, h⟩ := h
  refine g_texts F hc hT5 dX4_ruleOf_26 ?_
  refine g_goto F dX4_ruleOf_27 (tgt := 36) (by decide) ?_
  exact g_aret F R (Or.inl ⟨_, rfl⟩) (Or.inr ⟨_, rfl⟩) (Nat.le_refl 0) (Nat.le_refl 0) dX4_ruleOf_36 ⟨_, _, rfl, (hx _ (List.mem_of_getElem? hT5)), rfl, h⟩
theorem plX4_ruleOf : kPlain yX4_ruleOf 1 = true := by decide +kernel
theorem rX4_X4_ruleOf {z : kZ} {cc : ByteArray} {nL : Nat} {rm : Room} {c n pc : Nat} {lv : List (Nat × Value)} {st : List Value} {a : Nat → Nat} {tx : List kTxt} {E : va_W} {σ : kS} {b1 : Nat} {Q : kTxt → kS → Prop} (F : kF z cc RX4 nL rm) (hb1 : isFen b1) (hx : ∀ T ∈ tx, xIn (zg z) E T) (hd : decode cc pc = .ok (.invokevirtual 82, 3)) (hf : kFits rm 0 40 0 0 2 c n st = true) (h : wX4_ruleOf tx b1 σ Q) (k : ∀ (S : kTxt), xIn (zg z) E S → ∀ σ' : kS, Q S σ' → kV z (xW (zg z) a tx E σ') c n (pc + 3) lv (.ref S.1 :: st)) : kV z (xW (zg z) a tx E σ) c n pc lv (.ref (a b1) :: .ref (a 0) :: st) := by
  exact g_callV F (av := [.ref (a b1)]) (ctX4_ruleOf _ _ _ a tx E hb1 hx h) (ci := 4) (q0 := 0) rfl rfl rfl wq334 wq336 wq2 wq109 wq337 plX4_ruleOf hd hf (fun r ws' hq => by
    obtain ⟨S, σ', rfl, ha, rfl, hq⟩ := hq
    exact k S ha σ' hq)
theorem rX4_X0_costs {z : kZ} {cc : ByteArray} {nL : Nat} {rm : Room} {c n pc : Nat} {lv : List (Nat × Value)} {st : List Value} {a : Nat → Nat} {tx : List kTxt} {E : va_W} {σ : kS} {b : Nat} {T : kTxt} {l2 : Int32} {Q : Int32 → kS → Prop} (F : kF z cc RX4 nL rm) (hb : isFen b) (hT : xIn (zg z) E T) (hd : decode cc pc = .ok (.invokevirtual 86, 3)) (hf : kFits rm 2 108 0 0 4 c n st = true) (h : wX0_costs b T l2 σ Q) (k : ∀ (v : Int32) (σ' : kS), Q v σ' → kV z (xW (zg z) a tx E σ') c n (pc + 3) lv (.int v :: st)) : kV z (xW (zg z) a tx E σ) c n pc lv (.int l2 :: .ref T.1 :: .ref (a b) :: st) := by
  exact g_callV F (av := [.ref T.1, .int l2]) (ctX0_costs _ _ _ a tx E hb hT h) (ci := 0) (q0 := b) rfl (xFen_at hb) rfl wq338 wq339 wq340 wq110 wq341 plX0_costs hd hf (fun r ws' hq => by
    obtain ⟨v, σ', rfl, rfl, hq⟩ := hq
    exact k v σ' hq)
theorem plX0_drawsOfOwn : kPlain yX0_drawsOfOwn 1 = true := by decide +kernel
theorem rX4_X0_drawsOfOwn {z : kZ} {cc : ByteArray} {nL : Nat} {rm : Room} {c n pc : Nat} {lv : List (Nat × Value)} {st : List Value} {a : Nat → Nat} {tx : List kTxt} {E : va_W} {σ : kS} {b : Nat} {l1 : Int32} {Q : Int32 → kS → Prop} (F : kF z cc RX4 nL rm) (hb : isFen b) (hd : decode cc pc = .ok (.invokevirtual 79, 3)) (hf : kFits rm 2 105 0 0 2 c n st = true) (h : wX0_drawsOfOwn b l1 σ Q) (k : ∀ (v : Int32) (σ' : kS), Q v σ' → kV z (xW (zg z) a tx E σ') c n (pc + 3) lv (.int v :: st)) : kV z (xW (zg z) a tx E σ) c n pc lv (.int l1 :: .ref (a b) :: st) := by
  exact g_callV F (av := [.int l1]) (ctX0_drawsOfOwn _ _ _ a tx E hb h) (ci := 0) (q0 := b) rfl (xFen_at hb) rfl wq323 wq324 wq325 wq110 wq326 plX0_drawsOfOwn hd hf (fun r ws' hq => by
    obtain ⟨v, σ', rfl, rfl, hq⟩ := hq
    exact k v σ' hq)
set_option maxRecDepth 20000 in
theorem ctX4_told (l : Launch) (g : kG) (A : Nat → Prop) (a : Nat → Nat) (tx : List kTxt) (E : va_W) (hx : ∀ T ∈ tx, xIn g E T) {l1 : Int32} {l2 : Int32} {σ : kS} {Q : Int32 → kS → Prop} (h : wX4_told tx l1 l2 σ Q) : kCt l yX4_told cX4_told 3 (some .int) 3 131 0 0 g A [.ref (a 0), .int l1, .int l2] (xW g a tx E σ) (kPi (xW g a tx E) Q) := by
  refine kCt.of (lv0 := [(0, .ref (a 0)), (1, .int l1), (2, .int l2)]) (by decide +kernel) (Nat.le_of_ble_eq_true rfl) rfl (fun z hl hg hA F R => ?_)
  subst hl hg hA
  have F : kF z cX4_told RX4 3 { frames := 3, cells := 0, slots := 0, locals := 131 } := F
  unfold wX4_told at h
  refine g_aload_n F dX4_told_0 0 rfl ?_
  refine rgX4_X4_now F dX4_told_1 ?_
  refine g_iload_n F dX4_told_4 2 rfl ?_
  refine g_iload_n F dX4_told_5 1 rfl ?_
  refine rX4_X0_has F fen3 dX4_told_6 rfl h (fun r2 s1 h => ?_)
  refine g_if_ne F dX4_told_9 (tgt := 15) (by decide) (fun c3 => ?_) (fun c3 => ?_)
  · replace h := h.1 c3
    refine g_iload_n F dX4_told_15 2 rfl ?_
    refine g_bipush (v := (9 : Int32)) F dX4_told_16 (by decide) ?_
    refine g_icmp_ne F dX4_told_18 (tgt := 30) (by decide) (fun c4 => ?_) (fun c4 => ?_)
    · replace h := h.1 c4
      refine g_iload_n F dX4_told_30 2 rfl ?_
      refine g_bipush (v := (10 : Int32)) F dX4_told_31 (by decide) ?_
      refine g_icmp_ne F dX4_told_33 (tgt := 53) (by decide) (fun c5 => ?_) (fun c5 => ?_)
      · replace h := h.1 c5
        refine g_aload_n F dX4_told_53 0 rfl ?_
        refine rgX4_X4_now F dX4_told_54 ?_
        refine g_iload_n F dX4_told_57 2 rfl ?_
        refine g_iload_n F dX4_told_58 1 rfl ?_
        refine rX4_X0_get F fen3 dX4_told_59 rfl h (fun r7 s6 h => ?_)
        exact g_iret F R rfl rfl dX4_told_62 ⟨_, _, rfl, rfl, h⟩
      replace h := h.2 c5
      refine g_aload_n F dX4_told_36 0 rfl ?_
      refine rgX4_X4_now F dX4_told_37 ?_
      refine g_aload_n F dX4_told_40 0 rfl ?_
      refine g_aload_n F dX4_told_41 0 rfl ?_
      refine rgX4_X4_now F dX4_told_42 ?_
      refine rX4_X4_ruleOf F fen3 hx dX4_told_45 rfl h (fun r9 hr9 s8 h => ?_)
      refine g_iload_n F dX4_told_48 1 rfl ?_
      refine rX4_X0_costs F fen3 hr9 dX4_told_49 rfl h (fun r11 s10 h => ?_)
      exact g_iret F R rfl rfl dX4_told_52 ⟨_, _, rfl, rfl, h⟩
    replace h := h.2 c4
    refine g_aload_n F dX4_told_21 0 rfl ?_
    refine rgX4_X4_now F dX4_told_22 ?_
    refine g_iload_n F dX4_told_25 1 rfl ?_
    refine rX4_X0_drawsOfOwn F fen3 dX4_told_26 rfl h (fun r13 s12 h => ?_)
    exact g_iret F R rfl rfl dX4_told_29 ⟨_, _, rfl, rfl, h⟩
  replace h := h.2 c3
  refine g_bipush (v := (-2 : Int32)) F dX4_told_12 (by decide) ?_
  exact g_iret F R rfl rfl dX4_told_14 ⟨_, _, rfl, rfl, h⟩
theorem plX1_put : kPlain yX1_put 1 = true := by decide +kernel
theorem rX4_X1_put {z : kZ} {cc : ByteArray} {nL : Nat} {rm : Room} {c n pc : Nat} {lv : List (Nat × Value)} {st : List Value} {a : Nat → Nat} {tx : List kTxt} {E : va_W} {σ : kS} {l1 : Int32} {Q : Int32 → kS → Prop} (F : kF z cc RX4 nL rm) (hd : decode cc pc = .ok (.invokevirtual 90, 3)) (hf : kFits rm 0 40 0 0 2 c n st = true) (h : wX1_put l1 σ Q) (k : ∀ (v : Int32) (σ' : kS), Q v σ' → kV z (xW (zg z) a tx E σ') c n (pc + 3) lv (.int v :: st)) : kV z (xW (zg z) a tx E σ) c n pc lv (.int l1 :: .ref (a 30) :: st) := by
  exact g_callV F (av := [.int l1]) (ctX1_put _ _ _ a tx E h) (ci := 1) (q0 := 30) rfl rfl rfl wq369 wq370 wq371 wq112 wq372 plX1_put hd hf (fun r ws' hq => by
    obtain ⟨v, σ', rfl, rfl, hq⟩ := hq
    exact k v σ' hq)
theorem plX1_size : kPlain yX1_size 0 = true := by decide +kernel
theorem rX4_X1_size {z : kZ} {cc : ByteArray} {nL : Nat} {rm : Room} {c n pc : Nat} {lv : List (Nat × Value)} {st : List Value} {a : Nat → Nat} {tx : List kTxt} {E : va_W} {σ : kS} {Q : Int32 → kS → Prop} (F : kF z cc RX4 nL rm) (hd : decode cc pc = .ok (.invokevirtual 93, 3)) (hf : kFits rm 0 40 0 0 1 c n st = true) (h : wX1_size σ Q) (k : ∀ (v : Int32) (σ' : kS), Q v σ' → kV z (xW (zg z) a tx E σ') c n (pc + 3) lv (.int v :: st)) : kV z (xW (zg z) a tx E σ) c n pc lv (.ref (a 30) :: st) := by
  exact g_callV F (av := []) (ctX1_size _ _ _ a tx E h) (ci := 1) (q0 := 30) rfl rfl rfl wq373 wq374 wq375 wq112 wq376 plX1_size hd hf (fun r ws' hq => by
    obtain ⟨v, σ', rfl, rfl, hq⟩ := hq
    exact k v σ' hq)
set_option maxRecDepth 20000 in
theorem ctX4_feed (l : Launch) (g : kG) (A : Nat → Prop) (a : Nat → Nat) (tx : List kTxt) (E : va_W) {l1 : Int32} {σ : kS} {Q : Int32 → kS → Prop} (h : wX4_feed l1 σ Q) : kCt l yX4_feed cX4_feed 2 (some .int) 1 61 0 0 g A [.ref (a 0), .int l1] (xW g a tx E σ) (kPi (xW g a tx E) Q) := by
  refine kCt.of (lv0 := [(0, .ref (a 0)), (1, .int l1)]) (by decide +kernel) (Nat.le_of_ble_eq_true rfl) rfl (fun z hl hg hA F R => ?_)
  subst hl hg hA
  have F : kF z cX4_feed RX4 2 { frames := 1, cells := 0, slots := 0, locals := 61 } := F
  unfold wX4_feed at h
  refine g_iload_n F dX4_feed_0 1 rfl ?_
  refine g_if_lt F dX4_feed_1 (tgt := 11) (by decide) (fun c1 => ?_) (fun c1 => ?_)
  · replace h := h.1 c1
    refine g_bipush (v := (-2 : Int32)) F dX4_feed_11 (by decide) ?_
    exact g_iret F R rfl rfl dX4_feed_13 ⟨_, _, rfl, rfl, h⟩
  replace h := h.2 c1
  refine g_iload_n F dX4_feed_4 1 rfl ?_
  refine g_sipush (v := (255 : Int32)) F dX4_feed_5 (by decide) ?_
  refine g_icmp_le F dX4_feed_8 (tgt := 14) (by decide) (fun c2 => ?_) (fun c2 => ?_)
  · replace h := h.1 c2
    refine g_aload_n F dX4_feed_14 0 rfl ?_
    refine rgX4_X4_reader F dX4_feed_15 ?_
    refine g_iload_n F dX4_feed_18 1 rfl ?_
    refine rX4_X1_put F dX4_feed_19 rfl h (fun r4 s3 h => ?_)
    refine g_if_eq F dX4_feed_22 (tgt := 35) (by decide) (fun c5 => ?_) (fun c5 => ?_)
    · replace h := h.1 c5
      refine g_bipush (v := (-4 : Int32)) F dX4_feed_35 (by decide) ?_
      exact g_iret F R rfl rfl dX4_feed_37 ⟨_, _, rfl, rfl, h⟩
    replace h := h.2 c5
    refine g_aload_n F dX4_feed_25 0 rfl ?_
    refine rgX4_X4_reader F dX4_feed_26 ?_
    refine rX4_X1_size F dX4_feed_29 rfl h (fun r7 s6 h => ?_)
    refine g_goto F dX4_feed_32 (tgt := 37) (by decide) ?_
    exact g_iret F R rfl rfl dX4_feed_37 ⟨_, _, rfl, rfl, h⟩
  replace h := h.2 c2
  refine g_bipush (v := (-2 : Int32)) F dX4_feed_11 (by decide) ?_
  exact g_iret F R rfl rfl dX4_feed_13 ⟨_, _, rfl, rfl, h⟩
set_option maxRecDepth 20000 in
theorem ctX4_force (l : Launch) (g : kG) (A : Nat → Prop) (a : Nat → Nat) (tx : List kTxt) (E : va_W) {l1 : Int32} {σ : kS} {Q : Int32 → kS → Prop} (h : wX4_force l1 σ Q) : kCt l yX4_force cX4_force 3 (some .int) 0 40 0 0 g A [.ref (a 0), .int l1] (xW g a tx E σ) (kPi (xW g a tx E) Q) := by
  refine kCt.of (lv0 := [(0, .ref (a 0)), (1, .int l1)]) (by decide +kernel) (Nat.le_of_ble_eq_true rfl) rfl (fun z hl hg hA F R => ?_)
  subst hl hg hA
  have F : kF z cX4_force RX4 3 { frames := 0, cells := 0, slots := 0, locals := 40 } := F
  unfold wX4_force at h
  refine g_iload_n F dX4_force_0 1 rfl ?_
  refine g_if_lt F dX4_force_1 (tgt := 12) (by decide) (fun c1 => ?_) (fun c1 => ?_)
  · replace h := h.1 c1
    refine g_bipush (v := (-2 : Int32)) F dX4_force_12 (by decide) ?_
    exact g_iret F R rfl rfl dX4_force_14 ⟨_, _, rfl, rfl, h⟩
  replace h := h.2 c1
  refine g_iload_n F dX4_force_4 1 rfl ?_
  refine g_aload_n F dX4_force_5 0 rfl ?_
  refine rgX4_X4_textCount F dX4_force_6 ?_
  refine g_icmp_lt F dX4_force_9 (tgt := 15) (by decide) (fun c2 => ?_) (fun c2 => ?_)
  · replace h := h.1 c2
    refine g_aload_n F dX4_force_15 0 rfl ?_
    refine rgX4_X4_now F dX4_force_16 ?_
    refine rgX4_X0_rule fen3 F dX4_force_19 ?_
    refine g_topi (fun x3 ex3 => ?_)
    replace h := h x3 ex3
    refine g_istore_n (lv' := [(2, .int x3), (0, .ref (a 0)), (1, .int l1)]) F dX4_force_22 rfl rfl ?_
    refine g_aload_n F dX4_force_23 1 rfl ?_
    refine rgX4_X4_now F dX4_force_24 ?_
    refine g_iload_n F dX4_force_27 2 rfl ?_
    refine rpX4_X0_rule fen3 F dX4_force_28 ?_
    refine g_name (wf := xW (zg z) a tx E) (fun s4 es4 => ?_)
    replace h := h s4 es4
    refine g_iload_n F dX4_force_31 0 rfl ?_
    exact g_iret F R rfl rfl dX4_force_32 ⟨_, _, rfl, rfl, h⟩
  replace h := h.2 c2
  refine g_bipush (v := (-2 : Int32)) F dX4_force_12 (by decide) ?_
  exact g_iret F R rfl rfl dX4_force_14 ⟨_, _, rfl, rfl, h⟩
theorem rX4_X0_says {z : kZ} {cc : ByteArray} {nL : Nat} {rm : Room} {c n pc : Nat} {lv : List (Nat × Value)} {st : List Value} {a : Nat → Nat} {tx : List kTxt} {E : va_W} {σ : kS} {b : Nat} {T : kTxt} {l2 : Int32} {l3 : Int32} {l4 : Int32} {Q : Int32 → kS → Prop} (F : kF z cc RX4 nL rm) (hb : isFen b) (hT : xIn (zg z) E T) (hd : decode cc pc = .ok (.invokevirtual 110, 3)) (hf : kFits rm 1 80 0 0 9 c n st = true) (h : wX0_says b T l2 l3 l4 σ Q) (k : ∀ (v : Int32) (σ' : kS), Q v σ' → kV z (xW (zg z) a tx E σ') c n (pc + 3) lv (.int v :: st)) : kV z (xW (zg z) a tx E σ) c n pc lv (.int l4 :: .int l3 :: .int l2 :: .ref T.1 :: .ref (a b) :: st) := by
  exact g_callV F (av := [.ref T.1, .int l2, .int l3, .int l4]) (ctX0_says _ _ _ a tx E hb hT h) (ci := 0) (q0 := b) rfl (xFen_at hb) rfl wq527 wq343 wq344 wq110 wq345 plX0_says hd hf (fun r ws' hq => by
    obtain ⟨v, σ', rfl, rfl, hq⟩ := hq
    exact k v σ' hq)
set_option maxRecDepth 20000 in
theorem ctX4_asks (l : Launch) (g : kG) (A : Nat → Prop) (a : Nat → Nat) (tx : List kTxt) (E : va_W) (hx : ∀ T ∈ tx, xIn g E T) {l1 : Int32} {l2 : Int32} {σ : kS} {Q : Int32 → kS → Prop} (h : wX4_asks tx l1 l2 σ Q) : kCt l yX4_asks cX4_asks 3 (some .int) 2 108 0 0 g A [.ref (a 0), .int l1, .int l2] (xW g a tx E σ) (kPi (xW g a tx E) Q) := by
  refine kCt.of (lv0 := [(0, .ref (a 0)), (1, .int l1), (2, .int l2)]) (by decide +kernel) (Nat.le_of_ble_eq_true rfl) rfl (fun z hl hg hA F R => ?_)
  subst hl hg hA
  have F : kF z cX4_asks RX4 3 { frames := 2, cells := 0, slots := 0, locals := 108 } := F
  unfold wX4_asks at h
  refine g_iload_n F dX4_asks_0 1 rfl ?_
  refine g_if_lt F dX4_asks_1 (tgt := 16) (by decide) (fun c1 => ?_) (fun c1 => ?_)
  · replace h := h.1 c1
    refine g_bipush (v := (-2 : Int32)) F dX4_asks_16 (by decide) ?_
    exact g_iret F R rfl rfl dX4_asks_18 ⟨_, _, rfl, rfl, h⟩
  replace h := h.2 c1
  refine g_iload_n F dX4_asks_4 1 rfl ?_
  refine g_iconst (v := (1 : Int32)) F dX4_asks_5 (by decide) ?_
  refine g_icmp_gt F dX4_asks_6 (tgt := 16) (by decide) (fun c2 => ?_) (fun c2 => ?_)
  · replace h := h.1 c2
    refine g_bipush (v := (-2 : Int32)) F dX4_asks_16 (by decide) ?_
    exact g_iret F R rfl rfl dX4_asks_18 ⟨_, _, rfl, rfl, h⟩
  replace h := h.2 c2
  refine g_iload_n F dX4_asks_9 2 rfl ?_
  refine rX4_X4_isCell F dX4_asks_10 rfl h (fun r3 h => ?_)
  refine g_if_ne F dX4_asks_13 (tgt := 19) (by decide) (fun c4 => ?_) (fun c4 => ?_)
  · replace h := h.1 c4
    refine g_aload_n F dX4_asks_19 0 rfl ?_
    refine rgX4_X4_now F dX4_asks_20 ?_
    refine g_aload_n F dX4_asks_23 0 rfl ?_
    refine g_aload_n F dX4_asks_24 0 rfl ?_
    refine rgX4_X4_now F dX4_asks_25 ?_
    refine rX4_X4_ruleOf F fen3 hx dX4_asks_28 rfl h (fun r6 hr6 s5 h => ?_)
    refine g_iload_n F dX4_asks_31 1 rfl ?_
    refine g_iload_n F dX4_asks_32 2 rfl ?_
    refine g_iconst (v := (-1 : Int32)) F dX4_asks_33 (by decide) ?_
    refine rX4_X0_says F fen3 hr6 dX4_asks_34 rfl h (fun r8 s7 h => ?_)
    exact g_iret F R rfl rfl dX4_asks_37 ⟨_, _, rfl, rfl, h⟩
  replace h := h.2 c4
  refine g_bipush (v := (-2 : Int32)) F dX4_asks_16 (by decide) ?_
  exact g_iret F R rfl rfl dX4_asks_18 ⟨_, _, rfl, rfl, h⟩
theorem plX0_passYear : kPlain yX0_passYear 1 = true := by decide +kernel
theorem rX4_X0_passYear {z : kZ} {cc : ByteArray} {nL : Nat} {rm : Room} {c n pc : Nat} {lv : List (Nat × Value)} {st : List Value} {a : Nat → Nat} {tx : List kTxt} {E : va_W} {σ : kS} {b : Nat} {T : kTxt} {Q : kS → Prop} (F : kF z cc RX4 nL rm) (hb : isFen b) (hT : xIn (zg z) E T) (hd : decode cc pc = .ok (.invokevirtual 117, 3)) (hf : kFits rm 4 153 0 0 2 c n st = true) (h : wX0_passYear b T σ Q) (k : ∀ σ' : kS, Q σ' → kV z (xW (zg z) a tx E σ') c n (pc + 3) lv st) : kV z (xW (zg z) a tx E σ) c n pc lv (.ref T.1 :: .ref (a b) :: st) := by
  exact g_callV F (av := [.ref T.1]) (ctX0_passYear _ _ _ a tx E hb hT h) (ci := 0) (q0 := b) rfl (xFen_at hb) rfl wq532 wq533 wq534 wq110 wq535 plX0_passYear hd hf (fun r ws' hq => by
    obtain ⟨σ', rfl, rfl, hq⟩ := hq
    exact k σ' hq)
theorem plX0_dryCells : kPlain yX0_dryCells 0 = true := by decide +kernel
theorem rX4_X0_dryCells {z : kZ} {cc : ByteArray} {nL : Nat} {rm : Room} {c n pc : Nat} {lv : List (Nat × Value)} {st : List Value} {a : Nat → Nat} {tx : List kTxt} {E : va_W} {σ : kS} {b : Nat} {Q : Int32 → kS → Prop} (F : kF z cc RX4 nL rm) (hb : isFen b) (hd : decode cc pc = .ok (.invokevirtual 121, 3)) (hf : kFits rm 0 40 0 0 3 c n st = true) (h : wX0_dryCells b σ Q) (k : ∀ (v : Int32) (σ' : kS), Q v σ' → kV z (xW (zg z) a tx E σ') c n (pc + 3) lv (.int v :: st)) : kV z (xW (zg z) a tx E σ) c n pc lv (.ref (a b) :: st) := by
  exact g_callV F (av := []) (ctX0_dryCells _ _ _ a tx E hb h) (ci := 0) (q0 := b) rfl (xFen_at hb) rfl wq579 wq580 wq581 wq110 wq582 plX0_dryCells hd hf (fun r ws' hq => by
    obtain ⟨v, σ', rfl, rfl, hq⟩ := hq
    exact k v σ' hq)
theorem plJ6_bitCount : kPlain yJ6_bitCount_0f7a4 1 = true := by decide +kernel
theorem rX4_J6_bitCount {z : kZ} {cc : ByteArray} {nL : Nat} {rm : Room} {c n pc : Nat} {lv : List (Nat × Value)} {st : List Value} {ws : va_W} {l0 : Int32} {Q : Int32 → Prop} (F : kF z cc RX4 nL rm) (hd : decode cc pc = .ok (.invokestatic 124, 3)) (hf : kFits rm 0 40 0 0 1 c n st = true) (h : wJ6_bitCount l0 Q) (k : ∀ v : Int32, Q v → kV z ws c n (pc + 3) lv (.int v :: st)) : kV z ws c n pc lv (.int l0 :: st) := g_callS F (av := [.int l0]) (ctJ6_bitCount _ _ _ ws h) wq583 wq584 wq121 wq585 plJ6_bitCount hd hf (fun r ws' hq => by
    obtain ⟨v, rfl, rfl, hq⟩ := hq
    exact k v hq)
set_option maxRecDepth 20000 in
theorem ctX4_year (l : Launch) (g : kG) (A : Nat → Prop) (a : Nat → Nat) (tx : List kTxt) (E : va_W) (hx : ∀ T ∈ tx, xIn g E T) {σ : kS} {Q : Int32 → kS → Prop} (h : wX4_year tx σ Q) : kCt l yX4_year cX4_year 1 (some .int) 5 174 0 0 g A [.ref (a 0)] (xW g a tx E σ) (kPi (xW g a tx E) Q) := by
  refine kCt.of (lv0 := [(0, .ref (a 0))]) (by decide +kernel) (Nat.le_of_ble_eq_true rfl) rfl (fun z hl hg hA F R => ?_)
  subst hl hg hA
  have F : kF z cX4_year RX4 1 { frames := 5, cells := 0, slots := 0, locals := 174 } := F
  unfold wX4_year at h
  refine g_aload_n F dX4_year_0 0 rfl ?_
  refine rgX4_X4_now F dX4_year_1 ?_
  refine rgX4_X0_year fen3 F dX4_year_4 ?_
  refine g_sipush (v := (999 : Int32)) F dX4_year_7 (by decide) ?_
  refine g_icmp_lt F dX4_year_10 (tgt := 16) (by decide) (fun c1 => ?_) (fun c1 => ?_)
  · replace h := h.1 c1
    refine g_aload_n F dX4_year_16 0 rfl ?_
    refine rgX4_X4_now F dX4_year_17 ?_
    refine g_aload_n F dX4_year_20 0 rfl ?_
    refine g_aload_n F dX4_year_21 0 rfl ?_
    refine rgX4_X4_now F dX4_year_22 ?_
    refine rX4_X4_ruleOf F fen3 hx dX4_year_25 rfl h (fun r3 hr3 s2 h => ?_)
    refine rX4_X0_passYear F fen3 hr3 dX4_year_28 rfl h (fun s4 h => ?_)
    refine g_aload_n F dX4_year_31 0 rfl ?_
    refine rgX4_X4_now F dX4_year_32 ?_
    refine rX4_X0_dryCells F fen3 dX4_year_35 rfl h (fun r6 s5 h => ?_)
    refine rX4_J6_bitCount F dX4_year_38 rfl h (fun r7 h => ?_)
    exact g_iret F R rfl rfl dX4_year_41 ⟨_, _, rfl, rfl, h⟩
  replace h := h.2 c1
  refine g_bipush (v := (-3 : Int32)) F dX4_year_13 (by decide) ?_
  exact g_iret F R rfl rfl dX4_year_15 ⟨_, _, rfl, rfl, h⟩
set_option maxRecDepth 20000 in
theorem ctX4_areYears (l : Launch) (g : kG) (A : Nat → Prop) (ws : va_W) {l0 : Int32} {Q : Int32 → Prop} (h : wX4_areYears l0 Q) : kCt l yX4_areYears cX4_areYears 1 (some .boolean) 0 40 0 0 g A [.int l0] ws (kTi ws Q) := by
  refine kCt.of (lv0 := [(0, .int l0)]) (by decide +kernel) (Nat.le_of_ble_eq_true rfl) rfl (fun z hl hg hA F R => ?_)
  subst hl hg hA
  have F : kF z cX4_areYears RX4 1 { frames := 0, cells := 0, slots := 0, locals := 40 } := F
  unfold wX4_areYears at h
  refine g_iload_n F dX4_areYears_0 0 rfl ?_
  refine g_if_lt F dX4_areYears_1 (tgt := 14) (by decide) (fun c1 => ?_) (fun c1 => ?_)
  · replace h := h.1 c1
    refine g_iconst (v := (0 : Int32)) F dX4_areYears_14 (by decide) ?_
    exact g_zret F R rfl rfl rfl dX4_areYears_15 ⟨_, rfl, rfl, h⟩
  replace h := h.2 c1
  refine g_iload_n F dX4_areYears_4 0 rfl ?_
  refine g_bipush (v := (30 : Int32)) F dX4_areYears_5 (by decide) ?_
  refine g_icmp_gt F dX4_areYears_7 (tgt := 14) (by decide) (fun c2 => ?_) (fun c2 => ?_)
  · replace h := h.1 c2
    refine g_iconst (v := (0 : Int32)) F dX4_areYears_14 (by decide) ?_
    exact g_zret F R rfl rfl rfl dX4_areYears_15 ⟨_, rfl, rfl, h⟩
  replace h := h.2 c2
  refine g_iconst (v := (1 : Int32)) F dX4_areYears_10 (by decide) ?_
  refine g_goto F dX4_areYears_11 (tgt := 15) (by decide) ?_
  exact g_zret F R rfl rfl rfl dX4_areYears_15 ⟨_, rfl, rfl, h⟩
set_option maxRecDepth 20000 in
theorem sX4_isOfRun_9 {z : kZ} {ws : va_W}  {Q : Int32 → Prop} {l0 : Int32} (F : kF z cX4_isOfRun RX4 1 { frames := 0, cells := 0, slots := 0, locals := 40 }) (R : kR z (some .boolean) 0 0 (kTi ws Q)) (h : wX4_isOfRun_9 Q l0) : kV z ws 0 0 9 [(0, .int l0)] [] := by
  unfold wX4_isOfRun_9 at h
  refine g_iload_n F dX4_isOfRun_9 0 rfl ?_
  refine g_bipush (v := (100 : Int32)) F dX4_isOfRun_10 (by decide) ?_
  refine g_icmp_lt F dX4_isOfRun_12 (tgt := 35) (by decide) (fun c3 => ?_) (fun c3 => ?_)
  · replace h := h.1 c3
    refine g_iconst (v := (0 : Int32)) F dX4_isOfRun_35 (by decide) ?_
    exact g_zret F R rfl rfl rfl dX4_isOfRun_36 ⟨_, rfl, rfl, h⟩
  replace h := h.2 c3
  refine g_iload_n F dX4_isOfRun_15 0 rfl ?_
  refine g_sipush (v := (400 : Int32)) F dX4_isOfRun_16 (by decide) ?_
  refine g_icmp_ge F dX4_isOfRun_19 (tgt := 35) (by decide) (fun c4 => ?_) (fun c4 => ?_)
  · replace h := h.1 c4
    refine g_iconst (v := (0 : Int32)) F dX4_isOfRun_35 (by decide) ?_
    exact g_zret F R rfl rfl rfl dX4_isOfRun_36 ⟨_, rfl, rfl, h⟩
  replace h := h.2 c4
  refine g_iload_n F dX4_isOfRun_22 0 rfl ?_
  refine g_bipush (v := (100 : Int32)) F dX4_isOfRun_23 (by decide) ?_
  refine g_irem F dX4_isOfRun_25 (by decide) ?_
  refine g_bipush (v := (12 : Int32)) F dX4_isOfRun_26 (by decide) ?_
  refine g_icmp_ge F dX4_isOfRun_28 (tgt := 35) (by decide) (fun c5 => ?_) (fun c5 => ?_)
  · replace h := h.1 c5
    refine g_iconst (v := (0 : Int32)) F dX4_isOfRun_35 (by decide) ?_
    exact g_zret F R rfl rfl rfl dX4_isOfRun_36 ⟨_, rfl, rfl, h⟩
  replace h := h.2 c5
  refine g_iconst (v := (1 : Int32)) F dX4_isOfRun_31 (by decide) ?_
  refine g_goto F dX4_isOfRun_32 (tgt := 36) (by decide) ?_
  exact g_zret F R rfl rfl rfl dX4_isOfRun_36 ⟨_, rfl, rfl, h⟩
set_option maxRecDepth 20000 in
theorem ctX4_isOfRun (l : Launch) (g : kG) (A : Nat → Prop) (ws : va_W) {l0 : Int32} {Q : Int32 → Prop} (h : wX4_isOfRun l0 Q) : kCt l yX4_isOfRun cX4_isOfRun 1 (some .boolean) 0 40 0 0 g A [.int l0] ws (kTi ws Q) := by
  refine kCt.of (lv0 := [(0, .int l0)]) (by decide +kernel) (Nat.le_of_ble_eq_true rfl) rfl (fun z hl hg hA F R => ?_)
  subst hl hg hA
  have F : kF z cX4_isOfRun RX4 1 { frames := 0, cells := 0, slots := 0, locals := 40 } := F
  unfold wX4_isOfRun at h
  refine g_iload_n F dX4_isOfRun_0 0 rfl ?_
  refine g_if_lt F dX4_isOfRun_1 (tgt := 9) (by decide) (fun c1 => ?_) (fun c1 => ?_)
  · replace h := h.1 c1
    exact (sX4_isOfRun_9 F R h)
  replace h := h.2 c1
  refine g_iload_n F dX4_isOfRun_4 0 rfl ?_
  refine g_iconst (v := (4 : Int32)) F dX4_isOfRun_5 (by decide) ?_
  refine g_icmp_le F dX4_isOfRun_6 (tgt := 31) (by decide) (fun c2 => ?_) (fun c2 => ?_)
  · replace h := h.1 c2
    refine g_iconst (v := (1 : Int32)) F dX4_isOfRun_31 (by decide) ?_
    refine g_goto F dX4_isOfRun_32 (tgt := 36) (by decide) ?_
    exact g_zret F R rfl rfl rfl dX4_isOfRun_36 ⟨_, rfl, rfl, h⟩
  replace h := h.2 c2
  exact (sX4_isOfRun_9 F R h)
theorem plX0_take : kPlain yX0_take 1 = true := by decide +kernel
theorem rX4_X0_take {z : kZ} {cc : ByteArray} {nL : Nat} {rm : Room} {c n pc : Nat} {lv : List (Nat × Value)} {st : List Value} {a : Nat → Nat} {tx : List kTxt} {E : va_W} {σ : kS} {b : Nat} {b1 : Nat} {Q : kS → Prop} (F : kF z cc RX4 nL rm) (hb : isFen b) (hb1 : isFen b1) (hd : decode cc pc = .ok (.invokevirtual 207, 3)) (hf : kFits rm 1 80 0 0 2 c n st = true) (h : wX0_take b b1 σ Q) (k : ∀ σ' : kS, Q σ' → kV z (xW (zg z) a tx E σ') c n (pc + 3) lv st) : kV z (xW (zg z) a tx E σ) c n pc lv (.ref (a b1) :: .ref (a b) :: st) := by
  exact g_callV F (av := [.ref (a b1)]) (ctX0_take _ _ _ a tx E hb hb1 h) (ci := 0) (q0 := b) rfl (xFen_at hb) rfl wq607 wq608 wq609 wq110 wq610 plX0_take hd hf (fun r ws' hq => by
    obtain ⟨σ', rfl, rfl, hq⟩ := hq
    exact k σ' hq)
set_option maxRecDepth 20000 in
theorem ctX4_think (l : Launch) (g : kG) (A : Nat → Prop) (a : Nat → Nat) (tx : List kTxt) (E : va_W) {σ : kS} {Q : kS → Prop} (h : wX4_think σ Q) : kCt l yX4_think cX4_think 1 none 2 101 0 0 g A [.ref (a 0)] (xW g a tx E σ) (kPv (xW g a tx E) Q) := by
  refine kCt.of (lv0 := [(0, .ref (a 0))]) (by decide +kernel) (Nat.le_of_ble_eq_true rfl) rfl (fun z hl hg hA F R => ?_)
  subst hl hg hA
  have F : kF z cX4_think RX4 1 { frames := 2, cells := 0, slots := 0, locals := 101 } := F
  unfold wX4_think at h
  refine g_aload_n F dX4_think_0 0 rfl ?_
  refine rgX4_X4_thought F dX4_think_1 ?_
  refine g_aload_n F dX4_think_4 0 rfl ?_
  refine rgX4_X4_now F dX4_think_5 ?_
  refine rX4_X0_take F fen12 fen3 dX4_think_8 rfl h (fun s1 h => ?_)
  exact g_vret F R rfl rfl dX4_think_11 ⟨_, rfl, rfl, h⟩
theorem plX4_think : kPlain yX4_think 0 = true := by decide +kernel
theorem rX4_X4_think {z : kZ} {cc : ByteArray} {nL : Nat} {rm : Room} {c n pc : Nat} {lv : List (Nat × Value)} {st : List Value} {a : Nat → Nat} {tx : List kTxt} {E : va_W} {σ : kS} {Q : kS → Prop} (F : kF z cc RX4 nL rm) (hd : decode cc pc = .ok (.invokevirtual 154, 3)) (hf : kFits rm 2 101 0 0 1 c n st = true) (h : wX4_think σ Q) (k : ∀ σ' : kS, Q σ' → kV z (xW (zg z) a tx E σ') c n (pc + 3) lv st) : kV z (xW (zg z) a tx E σ) c n pc lv (.ref (a 0) :: st) := by
  exact g_callV F (av := []) (ctX4_think _ _ _ a tx E h) (ci := 4) (q0 := 0) rfl rfl rfl wq603 wq605 wq26 wq109 wq606 plX4_think hd hf (fun r ws' hq => by
    obtain ⟨σ', rfl, rfl, hq⟩ := hq
    exact k σ' hq)
set_option maxRecDepth 20000 in
theorem sX4_thinkYears_6 {z : kZ} {a : Nat → Nat} {tx : List kTxt} {E : va_W}  {Q : kS → Prop} {l1 : Int32} {l2 : Int32} {σ : kS} (F : kF z cX4_thinkYears RX4 3 { frames := 5, cells := 0, slots := 0, locals := 174 }) (R : kR z none 0 0 (kPv (xW (zg z) a tx E) Q)) (hx : ∀ T ∈ tx, xIn (zg z) E T) (h : wX4_thinkYears_6 tx Q l1 l2 σ) : kV z (xW (zg z) a tx E σ) 0 0 6 [(0, .ref (a 0)), (1, .int l1), (2, .int l2)] [] := by
  unfold wX4_thinkYears_6 at h
  refine h (fun σ l2 => kV z (xW (zg z) a tx E σ) 0 0 6 [(0, .ref (a 0)), (1, .int l1), (2, .int l2)] []) (fun σ l2 h => ?_)
  refine g_iload_n F dX4_thinkYears_6 2 rfl ?_
  refine g_iload_n F dX4_thinkYears_7 1 rfl ?_
  refine g_icmp_ge F dX4_thinkYears_8 (tgt := 54) (by decide) (fun c2 => ?_) (fun c2 => ?_)
  · replace h := h.1 c2
    exact g_vret F R rfl rfl dX4_thinkYears_54 ⟨_, rfl, rfl, h⟩
  replace h := h.2 c2
  refine g_iload_n F dX4_thinkYears_11 2 rfl ?_
  refine g_aload_n F dX4_thinkYears_12 0 rfl ?_
  refine rgX4_X4_dried F dX4_thinkYears_13 ?_
  refine g_len (wf := xW (zg z) a tx E) F xA1 dX4_thinkYears_16 ?_
  refine g_icmp_ge F dX4_thinkYears_17 (tgt := 54) (by decide) (fun c3 => ?_) (fun c3 => ?_)
  · replace h := h.1 c3
    exact g_vret F R rfl rfl dX4_thinkYears_54 ⟨_, rfl, rfl, h⟩
  replace h := h.2 c3
  refine g_aload_n F dX4_thinkYears_20 0 rfl ?_
  refine rgX4_X4_thought F dX4_thinkYears_21 ?_
  refine g_aload_n F dX4_thinkYears_24 0 rfl ?_
  refine g_aload_n F dX4_thinkYears_25 0 rfl ?_
  refine rgX4_X4_thought F dX4_thinkYears_26 ?_
  refine rX4_X4_ruleOf F fen12 hx dX4_thinkYears_29 rfl h (fun r5 hr5 s4 h => ?_)
  refine rX4_X0_passYear F fen12 hr5 dX4_thinkYears_32 rfl h (fun s6 h => ?_)
  refine g_aload_n F dX4_thinkYears_35 0 rfl ?_
  refine rgX4_X4_dried F dX4_thinkYears_36 ?_
  refine g_iload_n F dX4_thinkYears_39 2 rfl ?_
  refine g_aload_n F dX4_thinkYears_40 0 rfl ?_
  refine rgX4_X4_thought F dX4_thinkYears_41 ?_
  refine rX4_X0_dryCells F fen12 dX4_thinkYears_44 rfl h (fun r8 s7 h => ?_)
  obtain ⟨hc, h⟩ := h
  refine g_iast (wf := xW (zg z) a tx E) F xA1 hc dX4_thinkYears_47 ?_
  refine g_name (wf := xW (zg z) a tx E) (fun s9 es9 => ?_)
  replace h := h s9 es9
  obtain ⟨x10, ex10⟩ : ∃ q : Int32, q = l2 + (1 : Int32) := ⟨_, rfl⟩
  replace h := h x10 ex10
  refine g_iinc (lv' := [(2, .int x10), (0, .ref (a 0)), (1, .int l1)]) (d := (1 : Int32)) F dX4_thinkYears_48 rfl 2 rfl (by decide) ex10.symm rfl ?_
  refine g_goto F dX4_thinkYears_51 (tgt := 6) (by decide) ?_
  exact (g_sub [1, 2, 0] rfl h)
set_option maxRecDepth 20000 in
theorem ctX4_thinkYears (l : Launch) (g : kG) (A : Nat → Prop) (a : Nat → Nat) (tx : List kTxt) (E : va_W) (hx : ∀ T ∈ tx, xIn g E T) {l1 : Int32} {σ : kS} {Q : kS → Prop} (h : wX4_thinkYears tx l1 σ Q) : kCt l yX4_thinkYears cX4_thinkYears 3 none 5 174 0 0 g A [.ref (a 0), .int l1] (xW g a tx E σ) (kPv (xW g a tx E) Q) := by
  refine kCt.of (lv0 := [(0, .ref (a 0)), (1, .int l1)]) (by decide +kernel) (Nat.le_of_ble_eq_true rfl) rfl (fun z hl hg hA F R => ?_)
  subst hl hg hA
  have F : kF z cX4_thinkYears RX4 3 { frames := 5, cells := 0, slots := 0, locals := 174 } := F
  unfold wX4_thinkYears at h
  refine g_aload_n F dX4_thinkYears_0 0 rfl ?_
  refine rX4_X4_think F dX4_thinkYears_1 rfl h (fun s1 h => ?_)
  refine g_iconst (v := (0 : Int32)) F dX4_thinkYears_4 (by decide) ?_
  refine g_istore_n (lv' := [(2, .int (0 : Int32)), (0, .ref (a 0)), (1, .int l1)]) F dX4_thinkYears_5 rfl rfl ?_
  exact g_sub [1, 2, 0] rfl (sX4_thinkYears_6 F R hx h)
set_option maxRecDepth 20000 in
theorem sX4_mostDry_4 {z : kZ} {a : Nat → Nat} {tx : List kTxt} {E : va_W}  {Q : Int32 → kS → Prop} {l1 : Int32} {l2 : Int32} {l3 : Int32} {σ : kS} (F : kF z cX4_mostDry RX4 4 { frames := 1, cells := 0, slots := 0, locals := 80 }) (R : kR z (some .int) 0 0 (kPi (xW (zg z) a tx E) Q)) (h : wX4_mostDry_4 Q l1 l2 l3 σ) : kV z (xW (zg z) a tx E σ) 0 0 4 [(0, .ref (a 0)), (1, .int l1), (2, .int l2), (3, .int l3)] [] := by
  unfold wX4_mostDry_4 at h
  refine h (fun l2 l3 => kV z (xW (zg z) a tx E σ) 0 0 4 [(0, .ref (a 0)), (1, .int l1), (2, .int l2), (3, .int l3)] []) (fun l2 l3 h => ?_)
  refine g_iload_n F dX4_mostDry_4 3 rfl ?_
  refine g_iload_n F dX4_mostDry_5 1 rfl ?_
  refine g_icmp_ge F dX4_mostDry_6 (tgt := 38) (by decide) (fun c1 => ?_) (fun c1 => ?_)
  · replace h := h.1 c1
    refine g_iload_n F dX4_mostDry_38 2 rfl ?_
    exact g_iret F R rfl rfl dX4_mostDry_39 ⟨_, _, rfl, rfl, h⟩
  replace h := h.2 c1
  refine g_iload_n F dX4_mostDry_9 3 rfl ?_
  refine g_aload_n F dX4_mostDry_10 0 rfl ?_
  refine rgX4_X4_dried F dX4_mostDry_11 ?_
  refine g_len (wf := xW (zg z) a tx E) F xA1 dX4_mostDry_14 ?_
  refine g_icmp_ge F dX4_mostDry_15 (tgt := 38) (by decide) (fun c2 => ?_) (fun c2 => ?_)
  · replace h := h.1 c2
    refine g_iload_n F dX4_mostDry_38 2 rfl ?_
    exact g_iret F R rfl rfl dX4_mostDry_39 ⟨_, _, rfl, rfl, h⟩
  replace h := h.2 c2
  refine g_iload_n F dX4_mostDry_18 2 rfl ?_
  refine g_aload_n F dX4_mostDry_19 0 rfl ?_
  refine rgX4_X4_dried F dX4_mostDry_20 ?_
  refine g_iload_n F dX4_mostDry_23 3 rfl ?_
  obtain ⟨hc, h⟩ := h
  refine g_iald (wf := xW (zg z) a tx E) F xA1 hc dX4_mostDry_24 ?_
  refine rX4_J6_bitCount F dX4_mostDry_25 rfl h (fun r3 h => ?_)
  refine g_max F wq620 wq363 wq115 wq364 dX4_mostDry_28 rfl ?_
  refine g_topi (fun x4 ex4 => ?_)
  replace h := h x4 ex4
  refine g_istore_n (lv' := [(2, .int x4), (0, .ref (a 0)), (1, .int l1), (3, .int l3)]) F dX4_mostDry_31 rfl rfl ?_
  obtain ⟨x5, ex5⟩ : ∃ q : Int32, q = l3 + (1 : Int32) := ⟨_, rfl⟩
  replace h := h x5 ex5
  refine g_iinc (lv' := [(3, .int x5), (2, .int x4), (0, .ref (a 0)), (1, .int l1)]) (d := (1 : Int32)) F dX4_mostDry_32 rfl 3 rfl (by decide) ex5.symm rfl ?_
  refine g_goto F dX4_mostDry_35 (tgt := 4) (by decide) ?_
  exact (g_sub [2, 3, 1, 0] rfl h)
set_option maxRecDepth 20000 in
theorem ctX4_mostDry (l : Launch) (g : kG) (A : Nat → Prop) (a : Nat → Nat) (tx : List kTxt) (E : va_W) {l1 : Int32} {σ : kS} {Q : Int32 → kS → Prop} (h : wX4_mostDry l1 σ Q) : kCt l yX4_mostDry cX4_mostDry 4 (some .int) 1 80 0 0 g A [.ref (a 0), .int l1] (xW g a tx E σ) (kPi (xW g a tx E) Q) := by
  refine kCt.of (lv0 := [(0, .ref (a 0)), (1, .int l1)]) (by decide +kernel) (Nat.le_of_ble_eq_true rfl) rfl (fun z hl hg hA F R => ?_)
  subst hl hg hA
  have F : kF z cX4_mostDry RX4 4 { frames := 1, cells := 0, slots := 0, locals := 80 } := F
  unfold wX4_mostDry at h
  refine g_iconst (v := (0 : Int32)) F dX4_mostDry_0 (by decide) ?_
  refine g_istore_n (lv' := [(2, .int (0 : Int32)), (0, .ref (a 0)), (1, .int l1)]) F dX4_mostDry_1 rfl rfl ?_
  refine g_iconst (v := (0 : Int32)) F dX4_mostDry_2 (by decide) ?_
  refine g_istore_n (lv' := [(3, .int (0 : Int32)), (2, .int (0 : Int32)), (0, .ref (a 0)), (1, .int l1)]) F dX4_mostDry_3 rfl rfl ?_
  exact g_sub [2, 3, 1, 0] rfl (sX4_mostDry_4 F R h)
set_option maxRecDepth 20000 in
theorem sX4_firstDried_2 {z : kZ} {a : Nat → Nat} {tx : List kTxt} {E : va_W}  {Q : Int32 → kS → Prop} {l1 : Int32} {l2 : Int32} {l3 : Int32} {σ : kS} (F : kF z cX4_firstDried RX4 4 { frames := 1, cells := 0, slots := 0, locals := 60 }) (R : kR z (some .int) 0 0 (kPi (xW (zg z) a tx E) Q)) (h : wX4_firstDried_2 Q l1 l2 l3 σ) : kV z (xW (zg z) a tx E σ) 0 0 2 [(0, .ref (a 0)), (1, .int l1), (2, .int l2), (3, .int l3)] [] := by
  unfold wX4_firstDried_2 at h
  refine h (fun l3 => kV z (xW (zg z) a tx E σ) 0 0 2 [(0, .ref (a 0)), (1, .int l1), (2, .int l2), (3, .int l3)] []) (fun l3 h => ?_)
  refine g_iload_n F dX4_firstDried_2 3 rfl ?_
  refine g_iload_n F dX4_firstDried_3 1 rfl ?_
  refine g_icmp_ge F dX4_firstDried_4 (tgt := 37) (by decide) (fun c1 => ?_) (fun c1 => ?_)
  · replace h := h.1 c1
    refine g_iconst (v := (-1 : Int32)) F dX4_firstDried_37 (by decide) ?_
    exact g_iret F R rfl rfl dX4_firstDried_38 ⟨_, _, rfl, rfl, h⟩
  replace h := h.2 c1
  refine g_iload_n F dX4_firstDried_7 3 rfl ?_
  refine g_aload_n F dX4_firstDried_8 0 rfl ?_
  refine rgX4_X4_dried F dX4_firstDried_9 ?_
  refine g_len (wf := xW (zg z) a tx E) F xA1 dX4_firstDried_12 ?_
  refine g_icmp_ge F dX4_firstDried_13 (tgt := 37) (by decide) (fun c2 => ?_) (fun c2 => ?_)
  · replace h := h.1 c2
    refine g_iconst (v := (-1 : Int32)) F dX4_firstDried_37 (by decide) ?_
    exact g_iret F R rfl rfl dX4_firstDried_38 ⟨_, _, rfl, rfl, h⟩
  replace h := h.2 c2
  refine g_aload_n F dX4_firstDried_16 0 rfl ?_
  refine rgX4_X4_dried F dX4_firstDried_17 ?_
  refine g_iload_n F dX4_firstDried_20 3 rfl ?_
  obtain ⟨hc, h⟩ := h
  refine g_iald (wf := xW (zg z) a tx E) F xA1 hc dX4_firstDried_21 ?_
  refine rX4_J6_bitCount F dX4_firstDried_22 rfl h (fun r3 h => ?_)
  refine g_iload_n F dX4_firstDried_25 2 rfl ?_
  refine g_icmp_lt F dX4_firstDried_26 (tgt := 31) (by decide) (fun c4 => ?_) (fun c4 => ?_)
  · replace h := h.1 c4
    obtain ⟨x5, ex5⟩ : ∃ q : Int32, q = l3 + (1 : Int32) := ⟨_, rfl⟩
    replace h := h x5 ex5
    refine g_iinc (lv' := [(3, .int x5), (0, .ref (a 0)), (1, .int l1), (2, .int l2)]) (d := (1 : Int32)) F dX4_firstDried_31 rfl 3 rfl (by decide) ex5.symm rfl ?_
    refine g_goto F dX4_firstDried_34 (tgt := 2) (by decide) ?_
    exact (g_sub [1, 2, 3, 0] rfl h)
  replace h := h.2 c4
  refine g_iload_n F dX4_firstDried_29 3 rfl ?_
  exact g_iret F R rfl rfl dX4_firstDried_30 ⟨_, _, rfl, rfl, h⟩
set_option maxRecDepth 20000 in
theorem ctX4_firstDried (l : Launch) (g : kG) (A : Nat → Prop) (a : Nat → Nat) (tx : List kTxt) (E : va_W) {l1 : Int32} {l2 : Int32} {σ : kS} {Q : Int32 → kS → Prop} (h : wX4_firstDried l1 l2 σ Q) : kCt l yX4_firstDried cX4_firstDried 4 (some .int) 1 60 0 0 g A [.ref (a 0), .int l1, .int l2] (xW g a tx E σ) (kPi (xW g a tx E) Q) := by
  refine kCt.of (lv0 := [(0, .ref (a 0)), (1, .int l1), (2, .int l2)]) (by decide +kernel) (Nat.le_of_ble_eq_true rfl) rfl (fun z hl hg hA F R => ?_)
  subst hl hg hA
  have F : kF z cX4_firstDried RX4 4 { frames := 1, cells := 0, slots := 0, locals := 60 } := F
  unfold wX4_firstDried at h
  refine g_iconst (v := (0 : Int32)) F dX4_firstDried_0 (by decide) ?_
  refine g_istore_n (lv' := [(3, .int (0 : Int32)), (0, .ref (a 0)), (1, .int l1), (2, .int l2)]) F dX4_firstDried_1 rfl rfl ?_
  exact g_sub [1, 2, 3, 0] rfl (sX4_firstDried_2 F R h)
theorem plX4_mostDry : kPlain yX4_mostDry 1 = true := by decide +kernel
theorem rX4_X4_mostDry {z : kZ} {cc : ByteArray} {nL : Nat} {rm : Room} {c n pc : Nat} {lv : List (Nat × Value)} {st : List Value} {a : Nat → Nat} {tx : List kTxt} {E : va_W} {σ : kS} {l1 : Int32} {Q : Int32 → kS → Prop} (F : kF z cc RX4 nL rm) (hd : decode cc pc = .ok (.invokevirtual 145, 3)) (hf : kFits rm 1 80 0 0 4 c n st = true) (h : wX4_mostDry l1 σ Q) (k : ∀ (v : Int32) (σ' : kS), Q v σ' → kV z (xW (zg z) a tx E σ') c n (pc + 3) lv (.int v :: st)) : kV z (xW (zg z) a tx E σ) c n pc lv (.int l1 :: .ref (a 0) :: st) := by
  exact g_callV F (av := [.int l1]) (ctX4_mostDry _ _ _ a tx E h) (ci := 4) (q0 := 0) rfl rfl rfl wq616 wq618 wq28 wq109 wq619 plX4_mostDry hd hf (fun r ws' hq => by
    obtain ⟨v, σ', rfl, rfl, hq⟩ := hq
    exact k v σ' hq)
theorem plX4_firstDried : kPlain yX4_firstDried 2 = true := by decide +kernel
theorem rX4_X4_firstDried {z : kZ} {cc : ByteArray} {nL : Nat} {rm : Room} {c n pc : Nat} {lv : List (Nat × Value)} {st : List Value} {a : Nat → Nat} {tx : List kTxt} {E : va_W} {σ : kS} {l1 : Int32} {l2 : Int32} {Q : Int32 → kS → Prop} (F : kF z cc RX4 nL rm) (hd : decode cc pc = .ok (.invokevirtual 151, 3)) (hf : kFits rm 1 60 0 0 4 c n st = true) (h : wX4_firstDried l1 l2 σ Q) (k : ∀ (v : Int32) (σ' : kS), Q v σ' → kV z (xW (zg z) a tx E σ') c n (pc + 3) lv (.int v :: st)) : kV z (xW (zg z) a tx E σ) c n pc lv (.int l2 :: .int l1 :: .ref (a 0) :: st) := by
  exact g_callV F (av := [.int l1, .int l2]) (ctX4_firstDried _ _ _ a tx E h) (ci := 4) (q0 := 0) rfl rfl rfl wq621 wq623 wq29 wq109 wq624 plX4_firstDried hd hf (fun r ws' hq => by
    obtain ⟨v, σ', rfl, rfl, hq⟩ := hq
    exact k v σ' hq)
set_option maxRecDepth 20000 in
theorem ctX4_judged (l : Launch) (g : kG) (A : Nat → Prop) (a : Nat → Nat) (tx : List kTxt) (E : va_W) {l1 : Int32} {σ : kS} {Q : Int32 → kS → Prop} (h : wX4_judged l1 σ Q) : kCt l yX4_judged cX4_judged 2 (some .int) 2 103 0 0 g A [.ref (a 0), .int l1] (xW g a tx E σ) (kPi (xW g a tx E) Q) := by
  refine kCt.of (lv0 := [(0, .ref (a 0)), (1, .int l1)]) (by decide +kernel) (Nat.le_of_ble_eq_true rfl) rfl (fun z hl hg hA F R => ?_)
  subst hl hg hA
  have F : kF z cX4_judged RX4 2 { frames := 2, cells := 0, slots := 0, locals := 103 } := F
  unfold wX4_judged at h
  refine g_aload_n F dX4_judged_0 0 rfl ?_
  refine g_iload_n F dX4_judged_1 1 rfl ?_
  refine g_aload_n F dX4_judged_2 0 rfl ?_
  refine g_iload_n F dX4_judged_3 1 rfl ?_
  refine rX4_X4_mostDry F dX4_judged_4 rfl h (fun r2 s1 h => ?_)
  refine rX4_X4_firstDried F dX4_judged_7 rfl h (fun r4 s3 h => ?_)
  exact g_iret F R rfl rfl dX4_judged_10 ⟨_, _, rfl, rfl, h⟩
set_option maxRecDepth 20000 in
theorem sX4_keptYears_7 {z : kZ} {a : Nat → Nat} {tx : List kTxt} {E : va_W}  {Q : Int32 → kS → Prop} {l1 : Int32} {l2 : Int32} {l3 : Int32} {l4 : Int32} {σ : kS} (F : kF z cX4_keptYears RX4 6 { frames := 1, cells := 0, slots := 0, locals := 60 }) (R : kR z (some .int) 0 0 (kPi (xW (zg z) a tx E) Q)) (h : wX4_keptYears_7 Q l1 l2 l3 l4 σ) : kV z (xW (zg z) a tx E σ) 0 0 7 [(0, .ref (a 0)), (1, .int l1), (2, .int l2), (3, .int l3), (4, .int l4)] [] := by
  unfold wX4_keptYears_7 at h
  refine h (fun l2 l3 l4 => kV z (xW (zg z) a tx E σ) 0 0 7 [(0, .ref (a 0)), (1, .int l1), (2, .int l2), (3, .int l3), (4, .int l4)] []) (fun l2 l3 l4 h => ?_)
  refine g_iload F dX4_keptYears_7 4 rfl ?_
  refine g_iload_n F dX4_keptYears_9 1 rfl ?_
  refine g_icmp_ge F dX4_keptYears_10 (tgt := 53) (by decide) (fun c1 => ?_) (fun c1 => ?_)
  · replace h := h.1 c1
    refine g_iload_n F dX4_keptYears_53 2 rfl ?_
    exact g_iret F R rfl rfl dX4_keptYears_54 ⟨_, _, rfl, rfl, h⟩
  replace h := h.2 c1
  refine g_iload F dX4_keptYears_13 4 rfl ?_
  refine g_aload_n F dX4_keptYears_15 0 rfl ?_
  refine rgX4_X4_dried F dX4_keptYears_16 ?_
  refine g_len (wf := xW (zg z) a tx E) F xA1 dX4_keptYears_19 ?_
  refine g_icmp_ge F dX4_keptYears_20 (tgt := 53) (by decide) (fun c2 => ?_) (fun c2 => ?_)
  · replace h := h.1 c2
    refine g_iload_n F dX4_keptYears_53 2 rfl ?_
    exact g_iret F R rfl rfl dX4_keptYears_54 ⟨_, _, rfl, rfl, h⟩
  replace h := h.2 c2
  refine g_aload_n F dX4_keptYears_23 0 rfl ?_
  refine rgX4_X4_dried F dX4_keptYears_24 ?_
  refine g_iload F dX4_keptYears_27 4 rfl ?_
  obtain ⟨hc, h⟩ := h
  refine g_iald (wf := xW (zg z) a tx E) F xA1 hc dX4_keptYears_29 ?_
  refine rX4_J6_bitCount F dX4_keptYears_30 rfl h (fun r3 h => ?_)
  refine g_istore (lv' := [(5, .int r3), (0, .ref (a 0)), (1, .int l1), (2, .int l2), (3, .int l3), (4, .int l4)]) F dX4_keptYears_33 rfl rfl ?_
  refine g_iload F dX4_keptYears_35 0 rfl ?_
  refine g_iload_n F dX4_keptYears_37 4 rfl ?_
  refine g_icmp_lt F dX4_keptYears_38 (tgt := 47) (by decide) (fun c4 => ?_) (fun c4 => ?_)
  · replace h := h.1 c4
    obtain ⟨x5, ex5⟩ : ∃ q : Int32, q = l4 + (1 : Int32) := ⟨_, rfl⟩
    replace h := h x5 ex5
    refine g_iinc (lv' := [(4, .int x5), (5, .int r3), (0, .ref (a 0)), (1, .int l1), (2, .int l2), (3, .int l3)]) (d := (1 : Int32)) F dX4_keptYears_47 rfl 5 rfl (by decide) ex5.symm rfl ?_
    refine g_goto F dX4_keptYears_50 (tgt := 7) (by decide) ?_
    exact (g_sub [2, 3, 4, 5, 0] rfl h)
  replace h := h.2 c4
  obtain ⟨x6, ex6⟩ : ∃ q : Int32, q = l2 + (1 : Int32) := ⟨_, rfl⟩
  replace h := h x6 ex6
  refine g_iinc (lv' := [(2, .int x6), (5, .int r3), (0, .ref (a 0)), (1, .int l1), (3, .int l3), (4, .int l4)]) (d := (1 : Int32)) F dX4_keptYears_41 rfl 3 rfl (by decide) ex6.symm rfl ?_
  refine g_iload F dX4_keptYears_44 1 rfl ?_
  refine g_istore_n (lv' := [(3, .int r3), (2, .int x6), (5, .int r3), (0, .ref (a 0)), (1, .int l1), (4, .int l4)]) F dX4_keptYears_46 rfl rfl ?_
  obtain ⟨x7, ex7⟩ : ∃ q : Int32, q = l4 + (1 : Int32) := ⟨_, rfl⟩
  replace h := h x7 ex7
  refine g_iinc (lv' := [(4, .int x7), (3, .int r3), (2, .int x6), (5, .int r3), (0, .ref (a 0)), (1, .int l1)]) (d := (1 : Int32)) F dX4_keptYears_47 rfl 5 rfl (by decide) ex7.symm rfl ?_
  refine g_goto F dX4_keptYears_50 (tgt := 7) (by decide) ?_
  exact (g_sub [4, 5, 2, 1, 0] rfl h)
set_option maxRecDepth 20000 in
theorem ctX4_keptYears (l : Launch) (g : kG) (A : Nat → Prop) (a : Nat → Nat) (tx : List kTxt) (E : va_W) {l1 : Int32} {σ : kS} {Q : Int32 → kS → Prop} (h : wX4_keptYears l1 σ Q) : kCt l yX4_keptYears cX4_keptYears 6 (some .int) 1 60 0 0 g A [.ref (a 0), .int l1] (xW g a tx E σ) (kPi (xW g a tx E) Q) := by
  refine kCt.of (lv0 := [(0, .ref (a 0)), (1, .int l1)]) (by decide +kernel) (Nat.le_of_ble_eq_true rfl) rfl (fun z hl hg hA F R => ?_)
  subst hl hg hA
  have F : kF z cX4_keptYears RX4 6 { frames := 1, cells := 0, slots := 0, locals := 60 } := F
  unfold wX4_keptYears at h
  refine g_iconst (v := (0 : Int32)) F dX4_keptYears_0 (by decide) ?_
  refine g_istore_n (lv' := [(2, .int (0 : Int32)), (0, .ref (a 0)), (1, .int l1)]) F dX4_keptYears_1 rfl rfl ?_
  refine g_iconst (v := (0 : Int32)) F dX4_keptYears_2 (by decide) ?_
  refine g_istore_n (lv' := [(3, .int (0 : Int32)), (2, .int (0 : Int32)), (0, .ref (a 0)), (1, .int l1)]) F dX4_keptYears_3 rfl rfl ?_
  refine g_iconst (v := (0 : Int32)) F dX4_keptYears_4 (by decide) ?_
  refine g_istore (lv' := [(4, .int (0 : Int32)), (3, .int (0 : Int32)), (2, .int (0 : Int32)), (0, .ref (a 0)), (1, .int l1)]) F dX4_keptYears_5 rfl rfl ?_
  exact g_sub [3, 4, 2, 1, 0] rfl (sX4_keptYears_7 F R h)
theorem plX4_areYears : kPlain yX4_areYears 1 = true := by decide +kernel
theorem rX4_X4_areYears {z : kZ} {cc : ByteArray} {nL : Nat} {rm : Room} {c n pc : Nat} {lv : List (Nat × Value)} {st : List Value} {ws : va_W} {l0 : Int32} {Q : Int32 → Prop} (F : kF z cc RX4 nL rm) (hd : decode cc pc = .ok (.invokestatic 129, 3)) (hf : kFits rm 0 40 0 0 1 c n st = true) (h : wX4_areYears l0 Q) (k : ∀ v : Int32, Q v → kV z ws c n (pc + 3) lv (.int v :: st)) : kV z ws c n pc lv (.int l0 :: st) := g_callS F (av := [.int l0]) (ctX4_areYears _ _ _ ws h) wq593 wq594 wq109 wq595 plX4_areYears hd hf (fun r ws' hq => by
    obtain ⟨v, rfl, rfl, hq⟩ := hq
    exact k v hq)
theorem plX4_isOfRun : kPlain yX4_isOfRun 1 = true := by decide +kernel
theorem rX4_X4_isOfRun {z : kZ} {cc : ByteArray} {nL : Nat} {rm : Room} {c n pc : Nat} {lv : List (Nat × Value)} {st : List Value} {ws : va_W} {l0 : Int32} {Q : Int32 → Prop} (F : kF z cc RX4 nL rm) (hd : decode cc pc = .ok (.invokestatic 132, 3)) (hf : kFits rm 0 40 0 0 1 c n st = true) (h : wX4_isOfRun l0 Q) (k : ∀ v : Int32, Q v → kV z ws c n (pc + 3) lv (.int v :: st)) : kV z ws c n pc lv (.int l0 :: st) := g_callS F (av := [.int l0]) (ctX4_isOfRun _ _ _ ws h) wq596 wq597 wq109 wq598 plX4_isOfRun hd hf (fun r ws' hq => by
    obtain ⟨v, rfl, rfl, hq⟩ := hq
    exact k v hq)
theorem plX4_thinkYears : kPlain yX4_thinkYears 1 = true := by decide +kernel
theorem rX4_X4_thinkYears {z : kZ} {cc : ByteArray} {nL : Nat} {rm : Room} {c n pc : Nat} {lv : List (Nat × Value)} {st : List Value} {a : Nat → Nat} {tx : List kTxt} {E : va_W} {σ : kS} {l1 : Int32} {Q : kS → Prop} (F : kF z cc RX4 nL rm) (hx : ∀ T ∈ tx, xIn (zg z) E T) (hd : decode cc pc = .ok (.invokevirtual 135, 3)) (hf : kFits rm 5 174 0 0 3 c n st = true) (h : wX4_thinkYears tx l1 σ Q) (k : ∀ σ' : kS, Q σ' → kV z (xW (zg z) a tx E σ') c n (pc + 3) lv st) : kV z (xW (zg z) a tx E σ) c n pc lv (.int l1 :: .ref (a 0) :: st) := by
  exact g_callV F (av := [.int l1]) (ctX4_thinkYears _ _ _ a tx E hx h) (ci := 4) (q0 := 0) rfl rfl rfl wq599 wq601 wq25 wq109 wq602 plX4_thinkYears hd hf (fun r ws' hq => by
    obtain ⟨σ', rfl, rfl, hq⟩ := hq
    exact k σ' hq)
theorem plX4_judged : kPlain yX4_judged 1 = true := by decide +kernel
theorem rX4_X4_judged {z : kZ} {cc : ByteArray} {nL : Nat} {rm : Room} {c n pc : Nat} {lv : List (Nat × Value)} {st : List Value} {a : Nat → Nat} {tx : List kTxt} {E : va_W} {σ : kS} {l1 : Int32} {Q : Int32 → kS → Prop} (F : kF z cc RX4 nL rm) (hd : decode cc pc = .ok (.invokevirtual 142, 3)) (hf : kFits rm 2 103 0 0 2 c n st = true) (h : wX4_judged l1 σ Q) (k : ∀ (v : Int32) (σ' : kS), Q v σ' → kV z (xW (zg z) a tx E σ') c n (pc + 3) lv (.int v :: st)) : kV z (xW (zg z) a tx E σ) c n pc lv (.int l1 :: .ref (a 0) :: st) := by
  exact g_callV F (av := [.int l1]) (ctX4_judged _ _ _ a tx E h) (ci := 4) (q0 := 0) rfl rfl rfl wq612 wq614 wq27 wq109 wq615 plX4_judged hd hf (fun r ws' hq => by
    obtain ⟨v, σ', rfl, rfl, hq⟩ := hq
    exact k v σ' hq)
theorem plX4_keptYears : kPlain yX4_keptYears 1 = true := by decide +kernel
theorem rX4_X4_keptYears {z : kZ} {cc : ByteArray} {nL : Nat} {rm : Room} {c n pc : Nat} {lv : List (Nat × Value)} {st : List Value} {a : Nat → Nat} {tx : List kTxt} {E : va_W} {σ : kS} {l1 : Int32} {Q : Int32 → kS → Prop} (F : kF z cc RX4 nL rm) (hd : decode cc pc = .ok (.invokevirtual 148, 3)) (hf : kFits rm 1 60 0 0 6 c n st = true) (h : wX4_keptYears l1 σ Q) (k : ∀ (v : Int32) (σ' : kS), Q v σ' → kV z (xW (zg z) a tx E σ') c n (pc + 3) lv (.int v :: st)) : kV z (xW (zg z) a tx E σ) c n pc lv (.int l1 :: .ref (a 0) :: st) := by
  exact g_callV F (av := [.int l1]) (ctX4_keptYears _ _ _ a tx E h) (ci := 4) (q0 := 0) rfl rfl rfl wq625 wq627 wq30 wq109 wq628 plX4_keptYears hd hf (fun r ws' hq => by
    obtain ⟨v, σ', rfl, rfl, hq⟩ := hq
    exact k v σ' hq)
set_option maxRecDepth 20000 in
theorem ctX4_run (l : Launch) (g : kG) (A : Nat → Prop) (a : Nat → Nat) (tx : List kTxt) (E : va_W) (hx : ∀ T ∈ tx, xIn g E T) {l1 : Int32} {l2 : Int32} {σ : kS} {Q : Int32 → kS → Prop} (h : wX4_run tx l1 l2 σ Q) : kCt l yX4_run cX4_run 3 (some .int) 6 196 0 0 g A [.ref (a 0), .int l1, .int l2] (xW g a tx E σ) (kPi (xW g a tx E) Q) := by
  refine kCt.of (lv0 := [(0, .ref (a 0)), (1, .int l1), (2, .int l2)]) (by decide +kernel) (Nat.le_of_ble_eq_true rfl) rfl (fun z hl hg hA F R => ?_)
  subst hl hg hA
  have F : kF z cX4_run RX4 3 { frames := 6, cells := 0, slots := 0, locals := 196 } := F
  unfold wX4_run at h
  refine g_iload_n F dX4_run_0 1 rfl ?_
  refine rX4_X4_areYears F dX4_run_1 rfl h (fun r1 h => ?_)
  refine g_if_eq F dX4_run_4 (tgt := 14) (by decide) (fun c2 => ?_) (fun c2 => ?_)
  · replace h := h.1 c2
    refine g_bipush (v := (-2 : Int32)) F dX4_run_14 (by decide) ?_
    exact g_iret F R rfl rfl dX4_run_16 ⟨_, _, rfl, rfl, h⟩
  replace h := h.2 c2
  refine g_iload_n F dX4_run_7 2 rfl ?_
  refine rX4_X4_isOfRun F dX4_run_8 rfl h (fun r3 h => ?_)
  refine g_if_ne F dX4_run_11 (tgt := 17) (by decide) (fun c4 => ?_) (fun c4 => ?_)
  · replace h := h.1 c4
    refine g_aload_n F dX4_run_17 0 rfl ?_
    refine g_iload_n F dX4_run_18 1 rfl ?_
    refine rX4_X4_thinkYears F hx dX4_run_19 rfl h (fun s5 h => ?_)
    refine g_iload_n F dX4_run_22 2 rfl ?_
    by_cases c6 : l2 = (0 : Int32)
    · replace h := h.1 c6
      refine g_tableIn F dX4_run_23 (0 : Int32) c6 (off := 33) (tgt := 56) (by decide) (by decide) ?_
      refine g_aload_n F dX4_run_56 0 rfl ?_
      refine rgX4_X4_thought F dX4_run_57 ?_
      refine rX4_X0_dryCells F fen12 dX4_run_60 rfl h (fun r8 s7 h => ?_)
      exact g_iret F R rfl rfl dX4_run_63 ⟨_, _, rfl, rfl, h⟩
    replace h := h.2
    by_cases c9 : l2 = (1 : Int32)
    · replace h := h.1 c9
      refine g_tableIn F dX4_run_23 (1 : Int32) c9 (off := 41) (tgt := 64) (by decide) (by decide) ?_
      refine g_aload_n F dX4_run_64 0 rfl ?_
      refine rgX4_X4_thought F dX4_run_65 ?_
      refine rgX4_X0_paid fen12 F dX4_run_68 ?_
      refine g_aload_n F dX4_run_71 0 rfl ?_
      refine rgX4_X4_now F dX4_run_72 ?_
      refine rgX4_X0_paid fen3 F dX4_run_75 ?_
      refine g_isub F dX4_run_78 ?_
      exact g_iret F R rfl rfl dX4_run_79 ⟨_, _, rfl, rfl, h⟩
    replace h := h.2
    by_cases c10 : l2 = (2 : Int32)
    · replace h := h.1 c10
      refine g_tableIn F dX4_run_23 (2 : Int32) c10 (off := 57) (tgt := 80) (by decide) (by decide) ?_
      refine g_aload_n F dX4_run_80 0 rfl ?_
      refine g_iload_n F dX4_run_81 1 rfl ?_
      refine rX4_X4_judged F dX4_run_82 rfl h (fun r12 s11 h => ?_)
      exact g_iret F R rfl rfl dX4_run_85 ⟨_, _, rfl, rfl, h⟩
    replace h := h.2
    by_cases c13 : l2 = (3 : Int32)
    · replace h := h.1 c13
      refine g_tableIn F dX4_run_23 (3 : Int32) c13 (off := 63) (tgt := 86) (by decide) (by decide) ?_
      refine g_iload_n F dX4_run_86 1 rfl ?_
      refine g_if_ne F dX4_run_87 (tgt := 94) (by decide) (fun c14 => ?_) (fun c14 => ?_)
      · replace h := h.1 c14
        refine g_aload_n F dX4_run_94 0 rfl ?_
        refine g_iload_n F dX4_run_95 1 rfl ?_
        refine rX4_X4_mostDry F dX4_run_96 rfl h (fun r16 s15 h => ?_)
        exact g_iret F R rfl rfl dX4_run_99 ⟨_, _, rfl, rfl, h⟩
      replace h := h.2 c14
      refine g_iconst (v := (-1 : Int32)) F dX4_run_90 (by decide) ?_
      refine g_goto F dX4_run_91 (tgt := 99) (by decide) ?_
      exact g_iret F R rfl rfl dX4_run_99 ⟨_, _, rfl, rfl, h⟩
    replace h := h.2
    by_cases c17 : l2 = (4 : Int32)
    · replace h := h.1 c17
      refine g_tableIn F dX4_run_23 (4 : Int32) c17 (off := 77) (tgt := 100) (by decide) (by decide) ?_
      refine g_aload_n F dX4_run_100 0 rfl ?_
      refine g_iload_n F dX4_run_101 1 rfl ?_
      refine rX4_X4_keptYears F dX4_run_102 rfl h (fun r19 s18 h => ?_)
      exact g_iret F R rfl rfl dX4_run_105 ⟨_, _, rfl, rfl, h⟩
    replace h := h.2
    replace h := h c6 c9 c10 c13 c17
    refine g_tableOut F dX4_run_23 5 (by decide) (lt_s (lt_s (lt_s (lt_s (lt_s (lt_0) c6) c9) c10) c13) c17) (tgt := 106) (by decide) ?_
    refine g_aload_n F dX4_run_106 0 rfl ?_
    refine rgX4_X4_thought F dX4_run_107 ?_
    refine g_iconst (v := (2 : Int32)) F dX4_run_110 (by decide) ?_
    refine g_iload_n F dX4_run_111 2 rfl ?_
    refine g_bipush (v := (100 : Int32)) F dX4_run_112 (by decide) ?_
    refine g_idiv F dX4_run_114 (by decide) ?_
    refine g_iadd F dX4_run_115 ?_
    refine g_iconst (v := (1 : Int32)) F dX4_run_116 (by decide) ?_
    refine g_isub F dX4_run_117 ?_
    refine g_iload_n F dX4_run_118 2 rfl ?_
    refine g_bipush (v := (100 : Int32)) F dX4_run_119 (by decide) ?_
    refine g_irem F dX4_run_121 (by decide) ?_
    refine rX4_X0_get F fen12 dX4_run_122 rfl h (fun r21 s20 h => ?_)
    exact g_iret F R rfl rfl dX4_run_125 ⟨_, _, rfl, rfl, h⟩
  replace h := h.2 c4
  refine g_bipush (v := (-2 : Int32)) F dX4_run_14 (by decide) ?_
  exact g_iret F R rfl rfl dX4_run_16 ⟨_, _, rfl, rfl, h⟩
set_option maxRecDepth 20000 in
theorem ctX4_first (l : Launch) (g : kG) (A : Nat → Prop) (a : Nat → Nat) (tx : List kTxt) (E : va_W) (hx : ∀ T ∈ tx, xIn g E T) {l1 : Int32} {l2 : Int32} {σ : kS} {Q : Int32 → kS → Prop} (h : wX4_first tx l1 l2 σ Q) : kCt l yX4_first cX4_first 3 (some .int) 6 196 0 0 g A [.ref (a 0), .int l1, .int l2] (xW g a tx E σ) (kPi (xW g a tx E) Q) := by
  refine kCt.of (lv0 := [(0, .ref (a 0)), (1, .int l1), (2, .int l2)]) (by decide +kernel) (Nat.le_of_ble_eq_true rfl) rfl (fun z hl hg hA F R => ?_)
  subst hl hg hA
  have F : kF z cX4_first RX4 3 { frames := 6, cells := 0, slots := 0, locals := 196 } := F
  unfold wX4_first at h
  refine g_iload_n F dX4_first_0 1 rfl ?_
  refine rX4_X4_areYears F dX4_first_1 rfl h (fun r1 h => ?_)
  refine g_if_eq F dX4_first_4 (tgt := 18) (by decide) (fun c2 => ?_) (fun c2 => ?_)
  · replace h := h.1 c2
    refine g_bipush (v := (-2 : Int32)) F dX4_first_18 (by decide) ?_
    exact g_iret F R rfl rfl dX4_first_20 ⟨_, _, rfl, rfl, h⟩
  replace h := h.2 c2
  refine g_iload_n F dX4_first_7 2 rfl ?_
  refine g_iconst (v := (1 : Int32)) F dX4_first_8 (by decide) ?_
  refine g_icmp_lt F dX4_first_9 (tgt := 18) (by decide) (fun c3 => ?_) (fun c3 => ?_)
  · replace h := h.1 c3
    refine g_bipush (v := (-2 : Int32)) F dX4_first_18 (by decide) ?_
    exact g_iret F R rfl rfl dX4_first_20 ⟨_, _, rfl, rfl, h⟩
  replace h := h.2 c3
  refine g_iload_n F dX4_first_12 2 rfl ?_
  refine g_bipush (v := (12 : Int32)) F dX4_first_13 (by decide) ?_
  refine g_icmp_le F dX4_first_15 (tgt := 21) (by decide) (fun c4 => ?_) (fun c4 => ?_)
  · replace h := h.1 c4
    refine g_aload_n F dX4_first_21 0 rfl ?_
    refine g_iload_n F dX4_first_22 1 rfl ?_
    refine rX4_X4_thinkYears F hx dX4_first_23 rfl h (fun s5 h => ?_)
    refine g_aload_n F dX4_first_26 0 rfl ?_
    refine g_iload_n F dX4_first_27 1 rfl ?_
    refine g_iload_n F dX4_first_28 2 rfl ?_
    refine rX4_X4_firstDried F dX4_first_29 rfl h (fun r7 s6 h => ?_)
    exact g_iret F R rfl rfl dX4_first_32 ⟨_, _, rfl, rfl, h⟩
  replace h := h.2 c4
  refine g_bipush (v := (-2 : Int32)) F dX4_first_18 (by decide) ?_
  exact g_iret F R rfl rfl dX4_first_20 ⟨_, _, rfl, rfl, h⟩
set_option maxRecDepth 20000 in
theorem sX4_dryBehind_2 {z : kZ} {a : Nat → Nat} {tx : List kTxt} {E : va_W}  {Q : Int32 → kS → Prop} {l1 : Int32} {l2 : Int32} {σ : kS} (F : kF z cX4_dryBehind RX4 3 { frames := 5, cells := 0, slots := 0, locals := 174 }) (R : kR z (some .int) 0 0 (kPi (xW (zg z) a tx E) Q)) (hx : ∀ T ∈ tx, xIn (zg z) E T) (h : wX4_dryBehind_2 tx Q l1 l2 σ) : kV z (xW (zg z) a tx E σ) 0 0 2 [(0, .ref (a 0)), (1, .int l1), (2, .int l2)] [] := by
  unfold wX4_dryBehind_2 at h
  refine h (fun σ l2 => kV z (xW (zg z) a tx E σ) 0 0 2 [(0, .ref (a 0)), (1, .int l1), (2, .int l2)] []) (fun σ l2 h => ?_)
  refine g_iload_n F dX4_dryBehind_2 2 rfl ?_
  refine g_iload_n F dX4_dryBehind_3 1 rfl ?_
  refine g_icmp_ge F dX4_dryBehind_4 (tgt := 28) (by decide) (fun c1 => ?_) (fun c1 => ?_)
  · replace h := h.1 c1
    refine g_aload_n F dX4_dryBehind_28 0 rfl ?_
    refine rgX4_X4_thought F dX4_dryBehind_29 ?_
    refine rX4_X0_dryCells F fen12 dX4_dryBehind_32 rfl h (fun r3 s2 h => ?_)
    exact g_iret F R rfl rfl dX4_dryBehind_35 ⟨_, _, rfl, rfl, h⟩
  replace h := h.2 c1
  refine g_aload_n F dX4_dryBehind_7 0 rfl ?_
  refine rgX4_X4_thought F dX4_dryBehind_8 ?_
  refine g_aload_n F dX4_dryBehind_11 0 rfl ?_
  refine g_aload_n F dX4_dryBehind_12 0 rfl ?_
  refine rgX4_X4_thought F dX4_dryBehind_13 ?_
  refine rX4_X4_ruleOf F fen12 hx dX4_dryBehind_16 rfl h (fun r5 hr5 s4 h => ?_)
  refine rX4_X0_passYear F fen12 hr5 dX4_dryBehind_19 rfl h (fun s6 h => ?_)
  obtain ⟨x7, ex7⟩ : ∃ q : Int32, q = l2 + (1 : Int32) := ⟨_, rfl⟩
  replace h := h x7 ex7
  refine g_iinc (lv' := [(2, .int x7), (0, .ref (a 0)), (1, .int l1)]) (d := (1 : Int32)) F dX4_dryBehind_22 rfl 2 rfl (by decide) ex7.symm rfl ?_
  refine g_goto F dX4_dryBehind_25 (tgt := 2) (by decide) ?_
  exact (g_sub [1, 2, 0] rfl h)
set_option maxRecDepth 20000 in
theorem ctX4_dryBehind (l : Launch) (g : kG) (A : Nat → Prop) (a : Nat → Nat) (tx : List kTxt) (E : va_W) (hx : ∀ T ∈ tx, xIn g E T) {l1 : Int32} {σ : kS} {Q : Int32 → kS → Prop} (h : wX4_dryBehind tx l1 σ Q) : kCt l yX4_dryBehind cX4_dryBehind 3 (some .int) 5 174 0 0 g A [.ref (a 0), .int l1] (xW g a tx E σ) (kPi (xW g a tx E) Q) := by
  refine kCt.of (lv0 := [(0, .ref (a 0)), (1, .int l1)]) (by decide +kernel) (Nat.le_of_ble_eq_true rfl) rfl (fun z hl hg hA F R => ?_)
  subst hl hg hA
  have F : kF z cX4_dryBehind RX4 3 { frames := 5, cells := 0, slots := 0, locals := 174 } := F
  unfold wX4_dryBehind at h
  refine g_iconst (v := (0 : Int32)) F dX4_dryBehind_0 (by decide) ?_
  refine g_istore_n (lv' := [(2, .int (0 : Int32)), (0, .ref (a 0)), (1, .int l1)]) F dX4_dryBehind_1 rfl rfl ?_
  exact g_sub [1, 2, 0] rfl (sX4_dryBehind_2 F R hx h)
theorem plX4_dryBehind : kPlain yX4_dryBehind 1 = true := by decide +kernel
theorem rX4_X4_dryBehind {z : kZ} {cc : ByteArray} {nL : Nat} {rm : Room} {c n pc : Nat} {lv : List (Nat × Value)} {st : List Value} {a : Nat → Nat} {tx : List kTxt} {E : va_W} {σ : kS} {l1 : Int32} {Q : Int32 → kS → Prop} (F : kF z cc RX4 nL rm) (hx : ∀ T ∈ tx, xIn (zg z) E T) (hd : decode cc pc = .ok (.invokevirtual 157, 3)) (hf : kFits rm 5 174 0 0 3 c n st = true) (h : wX4_dryBehind tx l1 σ Q) (k : ∀ (v : Int32) (σ' : kS), Q v σ' → kV z (xW (zg z) a tx E σ') c n (pc + 3) lv (.int v :: st)) : kV z (xW (zg z) a tx E σ) c n pc lv (.int l1 :: .ref (a 0) :: st) := by
  exact g_callV F (av := [.int l1]) (ctX4_dryBehind _ _ _ a tx E hx h) (ci := 4) (q0 := 0) rfl rfl rfl wq637 wq639 wq31 wq109 wq640 plX4_dryBehind hd hf (fun r ws' hq => by
    obtain ⟨v, σ', rfl, rfl, hq⟩ := hq
    exact k v σ' hq)
set_option maxRecDepth 20000 in
theorem sX4_where_53 {z : kZ} {a : Nat → Nat} {tx : List kTxt} {E : va_W}  {Q : Int32 → kS → Prop} {l1 : Int32} {l2 : Int32} {l3 : Int32} {l4 : Int32} {l5 : Int32} {l6 : Int32} {σ : kS} (F : kF z cX4_where RX4 8 { frames := 6, cells := 0, slots := 0, locals := 196 }) (R : kR z (some .int) 0 0 (kPi (xW (zg z) a tx E) Q)) (hx : ∀ T ∈ tx, xIn (zg z) E T) (h : wX4_where_53 tx Q l1 l2 l3 l4 l5 l6 σ) : kV z (xW (zg z) a tx E σ) 0 0 53 [(0, .ref (a 0)), (1, .int l1), (2, .int l2), (3, .int l3), (4, .int l4), (5, .int l5), (6, .int l6)] [] := by
  unfold wX4_where_53 at h
  refine h (fun σ l4 l5 l6 => kV z (xW (zg z) a tx E σ) 0 0 53 [(0, .ref (a 0)), (1, .int l1), (2, .int l2), (3, .int l3), (4, .int l4), (5, .int l5), (6, .int l6)] []) (fun σ l4 l5 l6 h => ?_)
  refine g_iload F dX4_where_53 6 rfl ?_
  refine g_bipush (v := (12 : Int32)) F dX4_where_55 (by decide) ?_
  refine g_icmp_ge F dX4_where_57 (tgt := 112) (by decide) (fun c8 => ?_) (fun c8 => ?_)
  · replace h := h.1 c8
    refine g_iload_n F dX4_where_112 3 rfl ?_
    refine g_if_ne F dX4_where_113 (tgt := 121) (by decide) (fun c9 => ?_) (fun c9 => ?_)
    · replace h := h.1 c9
      refine g_iload F dX4_where_121 5 rfl ?_
      exact g_iret F R rfl rfl dX4_where_123 ⟨_, _, rfl, rfl, h⟩
    replace h := h.2 c9
    refine g_iload F dX4_where_116 4 rfl ?_
    refine g_goto F dX4_where_118 (tgt := 123) (by decide) ?_
    exact g_iret F R rfl rfl dX4_where_123 ⟨_, _, rfl, rfl, h⟩
  replace h := h.2 c8
  refine g_aload_n F dX4_where_60 0 rfl ?_
  refine rX4_X4_think F dX4_where_61 rfl h (fun s10 h => ?_)
  refine g_aload_n F dX4_where_64 0 rfl ?_
  refine rgX4_X4_thought F dX4_where_65 ?_
  refine g_iload_n F dX4_where_68 1 rfl ?_
  refine g_bipush (v := (10 : Int32)) F dX4_where_69 (by decide) ?_
  refine g_idiv F dX4_where_71 (by decide) ?_
  refine g_iload_n F dX4_where_72 1 rfl ?_
  refine g_bipush (v := (10 : Int32)) F dX4_where_73 (by decide) ?_
  refine g_irem F dX4_where_75 (by decide) ?_
  refine g_iload F dX4_where_76 6 rfl ?_
  refine rX4_X0_add F fen12 dX4_where_78 rfl h (fun s11 h => ?_)
  refine g_aload_n F dX4_where_81 0 rfl ?_
  refine g_iload_n F dX4_where_82 2 rfl ?_
  refine rX4_X4_dryBehind F hx dX4_where_83 rfl h (fun r13 s12 h => ?_)
  refine rX4_J6_bitCount F dX4_where_86 rfl h (fun r14 h => ?_)
  refine g_istore (lv' := [(7, .int r14), (0, .ref (a 0)), (1, .int l1), (2, .int l2), (3, .int l3), (4, .int l4), (5, .int l5), (6, .int l6)]) F dX4_where_89 rfl rfl ?_
  refine g_iload F dX4_where_91 0 rfl ?_
  refine g_iload F dX4_where_93 6 rfl ?_
  refine g_icmp_le F dX4_where_95 (tgt := 106) (by decide) (fun c15 => ?_) (fun c15 => ?_)
  · replace h := h.1 c15
    obtain ⟨x16, ex16⟩ : ∃ q : Int32, q = l6 + (1 : Int32) := ⟨_, rfl⟩
    replace h := h x16 ex16
    refine g_iinc (lv' := [(6, .int x16), (7, .int r14), (0, .ref (a 0)), (1, .int l1), (2, .int l2), (3, .int l3), (4, .int l4), (5, .int l5)]) (d := (1 : Int32)) F dX4_where_106 rfl 7 rfl (by decide) ex16.symm rfl ?_
    refine g_goto F dX4_where_109 (tgt := 53) (by decide) ?_
    exact (g_sub [2, 3, 4, 5, 6, 7, 0] rfl h)
  replace h := h.2 c15
  refine g_iload F dX4_where_98 0 rfl ?_
  refine g_istore (lv' := [(5, .int r14), (7, .int r14), (0, .ref (a 0)), (1, .int l1), (2, .int l2), (3, .int l3), (4, .int l4), (6, .int l6)]) F dX4_where_100 rfl rfl ?_
  refine g_iload F dX4_where_102 7 rfl ?_
  refine g_istore (lv' := [(4, .int l6), (5, .int r14), (7, .int r14), (0, .ref (a 0)), (1, .int l1), (2, .int l2), (3, .int l3), (6, .int l6)]) F dX4_where_104 rfl rfl ?_
  obtain ⟨x17, ex17⟩ : ∃ q : Int32, q = l6 + (1 : Int32) := ⟨_, rfl⟩
  replace h := h x17 ex17
  refine g_iinc (lv' := [(6, .int x17), (4, .int l6), (5, .int r14), (7, .int r14), (0, .ref (a 0)), (1, .int l1), (2, .int l2), (3, .int l3)]) (d := (1 : Int32)) F dX4_where_106 rfl 7 rfl (by decide) ex17.symm rfl ?_
  refine g_goto F dX4_where_109 (tgt := 53) (by decide) ?_
  exact (g_sub [4, 5, 6, 7, 1, 2, 0] rfl h)
set_option maxRecDepth 20000 in
theorem ctX4_where (l : Launch) (g : kG) (A : Nat → Prop) (a : Nat → Nat) (tx : List kTxt) (E : va_W) (hx : ∀ T ∈ tx, xIn g E T) {l1 : Int32} {l2 : Int32} {l3 : Int32} {σ : kS} {Q : Int32 → kS → Prop} (h : wX4_where tx l1 l2 l3 σ Q) : kCt l yX4_where cX4_where 8 (some .int) 6 196 0 0 g A [.ref (a 0), .int l1, .int l2, .int l3] (xW g a tx E σ) (kPi (xW g a tx E) Q) := by
  refine kCt.of (lv0 := [(0, .ref (a 0)), (1, .int l1), (2, .int l2), (3, .int l3)]) (by decide +kernel) (Nat.le_of_ble_eq_true rfl) rfl (fun z hl hg hA F R => ?_)
  subst hl hg hA
  have F : kF z cX4_where RX4 8 { frames := 6, cells := 0, slots := 0, locals := 196 } := F
  unfold wX4_where at h
  refine g_iload_n F dX4_where_0 1 rfl ?_
  refine g_if_lt F dX4_where_1 (tgt := 26) (by decide) (fun c1 => ?_) (fun c1 => ?_)
  · replace h := h.1 c1
    refine g_bipush (v := (-2 : Int32)) F dX4_where_26 (by decide) ?_
    exact g_iret F R rfl rfl dX4_where_28 ⟨_, _, rfl, rfl, h⟩
  replace h := h.2 c1
  refine g_iload_n F dX4_where_4 1 rfl ?_
  refine g_bipush (v := (60 : Int32)) F dX4_where_5 (by decide) ?_
  refine g_icmp_ge F dX4_where_7 (tgt := 26) (by decide) (fun c2 => ?_) (fun c2 => ?_)
  · replace h := h.1 c2
    refine g_bipush (v := (-2 : Int32)) F dX4_where_26 (by decide) ?_
    exact g_iret F R rfl rfl dX4_where_28 ⟨_, _, rfl, rfl, h⟩
  replace h := h.2 c2
  refine g_iload_n F dX4_where_10 2 rfl ?_
  refine rX4_X4_areYears F dX4_where_11 rfl h (fun r3 h => ?_)
  refine g_if_eq F dX4_where_14 (tgt := 26) (by decide) (fun c4 => ?_) (fun c4 => ?_)
  · replace h := h.1 c4
    refine g_bipush (v := (-2 : Int32)) F dX4_where_26 (by decide) ?_
    exact g_iret F R rfl rfl dX4_where_28 ⟨_, _, rfl, rfl, h⟩
  replace h := h.2 c4
  refine g_iload_n F dX4_where_17 3 rfl ?_
  refine g_if_lt F dX4_where_18 (tgt := 26) (by decide) (fun c5 => ?_) (fun c5 => ?_)
  · replace h := h.1 c5
    refine g_bipush (v := (-2 : Int32)) F dX4_where_26 (by decide) ?_
    exact g_iret F R rfl rfl dX4_where_28 ⟨_, _, rfl, rfl, h⟩
  replace h := h.2 c5
  refine g_iload_n F dX4_where_21 3 rfl ?_
  refine g_iconst (v := (1 : Int32)) F dX4_where_22 (by decide) ?_
  refine g_icmp_le F dX4_where_23 (tgt := 29) (by decide) (fun c6 => ?_) (fun c6 => ?_)
  · replace h := h.1 c6
    refine g_aload_n F dX4_where_29 0 rfl ?_
    refine rgX4_X4_now F dX4_where_30 ?_
    refine rgX4_X0_works fen3 F dX4_where_33 ?_
    refine g_bipush (v := (6 : Int32)) F dX4_where_36 (by decide) ?_
    refine g_icmp_lt F dX4_where_38 (tgt := 44) (by decide) (fun c7 => ?_) (fun c7 => ?_)
    · replace h := h.1 c7
      refine g_iconst (v := (0 : Int32)) F dX4_where_44 (by decide) ?_
      refine g_istore (lv' := [(4, .int (0 : Int32)), (0, .ref (a 0)), (1, .int l1), (2, .int l2), (3, .int l3)]) F dX4_where_45 rfl rfl ?_
      refine g_iconst (v := (-1 : Int32)) F dX4_where_47 (by decide) ?_
      refine g_istore (lv' := [(5, .int (-1 : Int32)), (4, .int (0 : Int32)), (0, .ref (a 0)), (1, .int l1), (2, .int l2), (3, .int l3)]) F dX4_where_48 rfl rfl ?_
      refine g_iconst (v := (0 : Int32)) F dX4_where_50 (by decide) ?_
      refine g_istore (lv' := [(6, .int (0 : Int32)), (5, .int (-1 : Int32)), (4, .int (0 : Int32)), (0, .ref (a 0)), (1, .int l1), (2, .int l2), (3, .int l3)]) F dX4_where_51 rfl rfl ?_
      exact g_sub [3, 4, 5, 6, 2, 1, 0] rfl (sX4_where_53 F R hx h)
    replace h := h.2 c7
    refine g_bipush (v := (-4 : Int32)) F dX4_where_41 (by decide) ?_
    exact g_iret F R rfl rfl dX4_where_43 ⟨_, _, rfl, rfl, h⟩
  replace h := h.2 c6
  refine g_bipush (v := (-2 : Int32)) F dX4_where_26 (by decide) ?_
  exact g_iret F R rfl rfl dX4_where_28 ⟨_, _, rfl, rfl, h⟩
set_option maxRecDepth 20000 in
theorem ctX4_dryWithout (l : Launch) (g : kG) (A : Nat → Prop) (a : Nat → Nat) (tx : List kTxt) (E : va_W) (hx : ∀ T ∈ tx, xIn g E T) {l1 : Int32} {l2 : Int32} {σ : kS} {Q : Int32 → kS → Prop} (h : wX4_dryWithout tx l1 l2 σ Q) : kCt l yX4_dryWithout cX4_dryWithout 3 (some .int) 6 196 0 0 g A [.ref (a 0), .int l1, .int l2] (xW g a tx E σ) (kPi (xW g a tx E) Q) := by
  refine kCt.of (lv0 := [(0, .ref (a 0)), (1, .int l1), (2, .int l2)]) (by decide +kernel) (Nat.le_of_ble_eq_true rfl) rfl (fun z hl hg hA F R => ?_)
  subst hl hg hA
  have F : kF z cX4_dryWithout RX4 3 { frames := 6, cells := 0, slots := 0, locals := 196 } := F
  unfold wX4_dryWithout at h
  refine g_aload_n F dX4_dryWithout_0 0 rfl ?_
  refine rX4_X4_think F dX4_dryWithout_1 rfl h (fun s1 h => ?_)
  refine g_aload_n F dX4_dryWithout_4 0 rfl ?_
  refine rgX4_X4_thought F dX4_dryWithout_5 ?_
  refine g_bipush (v := (7 : Int32)) F dX4_dryWithout_8 (by decide) ?_
  refine g_iload_n F dX4_dryWithout_10 1 rfl ?_
  refine g_iconst (v := (0 : Int32)) F dX4_dryWithout_11 (by decide) ?_
  refine rX4_X0_put F fen12 dX4_dryWithout_12 rfl h (fun s2 h => ?_)
  refine g_aload_n F dX4_dryWithout_15 0 rfl ?_
  refine g_iload_n F dX4_dryWithout_16 2 rfl ?_
  refine rX4_X4_dryBehind F hx dX4_dryWithout_17 rfl h (fun r4 s3 h => ?_)
  exact g_iret F R rfl rfl dX4_dryWithout_20 ⟨_, _, rfl, rfl, h⟩
theorem rX4_X0_goes {z : kZ} {cc : ByteArray} {nL : Nat} {rm : Room} {c n pc : Nat} {lv : List (Nat × Value)} {st : List Value} {a : Nat → Nat} {tx : List kTxt} {E : va_W} {σ : kS} {b : Nat} {l1 : Int32} {Q : Int32 → kS → Prop} (F : kF z cc RX4 nL rm) (hb : isFen b) (hd : decode cc pc = .ok (.invokevirtual 160, 3)) (hf : kFits rm 0 40 0 0 2 c n st = true) (h : wX0_goes b l1 σ Q) (k : ∀ (v : Int32) (σ' : kS), Q v σ' → kV z (xW (zg z) a tx E σ') c n (pc + 3) lv (.int v :: st)) : kV z (xW (zg z) a tx E σ) c n pc lv (.int l1 :: .ref (a b) :: st) := by
  exact g_callV F (av := [.int l1]) (ctX0_goes _ _ _ a tx E hb h) (ci := 0) (q0 := b) rfl (xFen_at hb) rfl wq645 wq553 wq554 wq110 wq555 plX0_goes hd hf (fun r ws' hq => by
    obtain ⟨v, σ', rfl, rfl, hq⟩ := hq
    exact k v σ' hq)
theorem plX4_dryWithout : kPlain yX4_dryWithout 2 = true := by decide +kernel
theorem rX4_X4_dryWithout {z : kZ} {cc : ByteArray} {nL : Nat} {rm : Room} {c n pc : Nat} {lv : List (Nat × Value)} {st : List Value} {a : Nat → Nat} {tx : List kTxt} {E : va_W} {σ : kS} {l1 : Int32} {l2 : Int32} {Q : Int32 → kS → Prop} (F : kF z cc RX4 nL rm) (hx : ∀ T ∈ tx, xIn (zg z) E T) (hd : decode cc pc = .ok (.invokevirtual 163, 3)) (hf : kFits rm 6 196 0 0 3 c n st = true) (h : wX4_dryWithout tx l1 l2 σ Q) (k : ∀ (v : Int32) (σ' : kS), Q v σ' → kV z (xW (zg z) a tx E σ') c n (pc + 3) lv (.int v :: st)) : kV z (xW (zg z) a tx E σ) c n pc lv (.int l2 :: .int l1 :: .ref (a 0) :: st) := by
  exact g_callV F (av := [.int l1, .int l2]) (ctX4_dryWithout _ _ _ a tx E hx h) (ci := 4) (q0 := 0) rfl rfl rfl wq646 wq648 wq32 wq109 wq649 plX4_dryWithout hd hf (fun r ws' hq => by
    obtain ⟨v, σ', rfl, rfl, hq⟩ := hq
    exact k v σ' hq)
set_option maxRecDepth 20000 in
theorem sX4_idle_25 {z : kZ} {a : Nat → Nat} {tx : List kTxt} {E : va_W}  {Q : Int32 → kS → Prop} {l1 : Int32} {l2 : Int32} {l3 : Int32} {σ : kS} (F : kF z cX4_idle RX4 4 { frames := 7, cells := 0, slots := 0, locals := 218 }) (R : kR z (some .int) 0 0 (kPi (xW (zg z) a tx E) Q)) (hx : ∀ T ∈ tx, xIn (zg z) E T) (h : wX4_idle_25 tx Q l1 l2 l3 σ) : kV z (xW (zg z) a tx E σ) 0 0 25 [(0, .ref (a 0)), (1, .int l1), (2, .int l2), (3, .int l3)] [] := by
  unfold wX4_idle_25 at h
  refine h (fun σ l3 => kV z (xW (zg z) a tx E σ) 0 0 25 [(0, .ref (a 0)), (1, .int l1), (2, .int l2), (3, .int l3)] []) (fun σ l3 h => ?_)
  refine g_iload_n F dX4_idle_25 3 rfl ?_
  refine g_aload_n F dX4_idle_26 0 rfl ?_
  refine rgX4_X4_now F dX4_idle_27 ?_
  refine rgX4_X0_works fen3 F dX4_idle_30 ?_
  refine g_icmp_ge F dX4_idle_33 (tgt := 68) (by decide) (fun c7 => ?_) (fun c7 => ?_)
  · replace h := h.1 c7
    refine g_iconst (v := (-1 : Int32)) F dX4_idle_68 (by decide) ?_
    exact g_iret F R rfl rfl dX4_idle_69 ⟨_, _, rfl, rfl, h⟩
  replace h := h.2 c7
  refine g_aload_n F dX4_idle_36 0 rfl ?_
  refine rgX4_X4_now F dX4_idle_37 ?_
  refine g_iload_n F dX4_idle_40 3 rfl ?_
  refine rX4_X0_goes F fen3 dX4_idle_41 rfl h (fun r9 s8 h => ?_)
  refine g_if_eq F dX4_idle_44 (tgt := 62) (by decide) (fun c10 => ?_) (fun c10 => ?_)
  · replace h := h.1 c10
    obtain ⟨x11, ex11⟩ : ∃ q : Int32, q = l3 + (1 : Int32) := ⟨_, rfl⟩
    replace h := h x11 ex11
    refine g_iinc (lv' := [(3, .int x11), (0, .ref (a 0)), (1, .int l1), (2, .int l2)]) (d := (1 : Int32)) F dX4_idle_62 rfl 3 rfl (by decide) ex11.symm rfl ?_
    refine g_goto F dX4_idle_65 (tgt := 25) (by decide) ?_
    exact (g_sub [1, 2, 3, 0] rfl h)
  replace h := h.2 c10
  refine g_aload_n F dX4_idle_47 0 rfl ?_
  refine g_iload_n F dX4_idle_48 3 rfl ?_
  refine g_iload_n F dX4_idle_49 1 rfl ?_
  refine rX4_X4_dryWithout F hx dX4_idle_50 rfl h (fun r13 s12 h => ?_)
  refine rX4_J6_bitCount F dX4_idle_53 rfl h (fun r14 h => ?_)
  refine g_iload_n F dX4_idle_56 2 rfl ?_
  refine g_icmp_lt F dX4_idle_57 (tgt := 62) (by decide) (fun c15 => ?_) (fun c15 => ?_)
  · replace h := h.1 c15
    obtain ⟨x16, ex16⟩ : ∃ q : Int32, q = l3 + (1 : Int32) := ⟨_, rfl⟩
    replace h := h x16 ex16
    refine g_iinc (lv' := [(3, .int x16), (0, .ref (a 0)), (1, .int l1), (2, .int l2)]) (d := (1 : Int32)) F dX4_idle_62 rfl 3 rfl (by decide) ex16.symm rfl ?_
    refine g_goto F dX4_idle_65 (tgt := 25) (by decide) ?_
    exact (g_sub [1, 2, 3, 0] rfl h)
  replace h := h.2 c15
  refine g_iload_n F dX4_idle_60 3 rfl ?_
  exact g_iret F R rfl rfl dX4_idle_61 ⟨_, _, rfl, rfl, h⟩
set_option maxRecDepth 20000 in
theorem ctX4_idle (l : Launch) (g : kG) (A : Nat → Prop) (a : Nat → Nat) (tx : List kTxt) (E : va_W) (hx : ∀ T ∈ tx, xIn g E T) {l1 : Int32} {σ : kS} {Q : Int32 → kS → Prop} (h : wX4_idle tx l1 σ Q) : kCt l yX4_idle cX4_idle 4 (some .int) 7 218 0 0 g A [.ref (a 0), .int l1] (xW g a tx E σ) (kPi (xW g a tx E) Q) := by
  refine kCt.of (lv0 := [(0, .ref (a 0)), (1, .int l1)]) (by decide +kernel) (Nat.le_of_ble_eq_true rfl) rfl (fun z hl hg hA F R => ?_)
  subst hl hg hA
  have F : kF z cX4_idle RX4 4 { frames := 7, cells := 0, slots := 0, locals := 218 } := F
  unfold wX4_idle at h
  refine g_iload_n F dX4_idle_0 1 rfl ?_
  refine rX4_X4_areYears F dX4_idle_1 rfl h (fun r1 h => ?_)
  refine g_if_ne F dX4_idle_4 (tgt := 10) (by decide) (fun c2 => ?_) (fun c2 => ?_)
  · replace h := h.1 c2
    refine g_aload_n F dX4_idle_10 0 rfl ?_
    refine rX4_X4_think F dX4_idle_11 rfl h (fun s3 h => ?_)
    refine g_aload_n F dX4_idle_14 0 rfl ?_
    refine g_iload_n F dX4_idle_15 1 rfl ?_
    refine rX4_X4_dryBehind F hx dX4_idle_16 rfl h (fun r5 s4 h => ?_)
    refine rX4_J6_bitCount F dX4_idle_19 rfl h (fun r6 h => ?_)
    refine g_istore_n (lv' := [(2, .int r6), (0, .ref (a 0)), (1, .int l1)]) F dX4_idle_22 rfl rfl ?_
    refine g_iconst (v := (0 : Int32)) F dX4_idle_23 (by decide) ?_
    refine g_istore_n (lv' := [(3, .int (0 : Int32)), (2, .int r6), (0, .ref (a 0)), (1, .int l1)]) F dX4_idle_24 rfl rfl ?_
    exact g_sub [2, 3, 1, 0] rfl (sX4_idle_25 F R hx h)
  replace h := h.2 c2
  refine g_bipush (v := (-2 : Int32)) F dX4_idle_7 (by decide) ?_
  exact g_iret F R rfl rfl dX4_idle_9 ⟨_, _, rfl, rfl, h⟩
set_option maxRecDepth 20000 in
theorem sX4_low_24 {z : kZ} {a : Nat → Nat} {tx : List kTxt} {E : va_W}  {Q : Int32 → kS → Prop} {l1 : Int32} {l2 : Int32} {l3 : Int32} {σ : kS} (F : kF z cX4_low RX4 4 { frames := 6, cells := 0, slots := 0, locals := 196 }) (R : kR z (some .int) 0 0 (kPi (xW (zg z) a tx E) Q)) (hx : ∀ T ∈ tx, xIn (zg z) E T) (h : wX4_low_24 tx Q l1 l2 l3 σ) : kV z (xW (zg z) a tx E σ) 0 0 24 [(0, .ref (a 0)), (1, .int l1), (2, .int l2), (3, .int l3)] [] := by
  unfold wX4_low_24 at h
  refine h (fun σ l3 => kV z (xW (zg z) a tx E σ) 0 0 24 [(0, .ref (a 0)), (1, .int l1), (2, .int l2), (3, .int l3)] []) (fun σ l3 h => ?_)
  refine g_iload_n F dX4_low_24 3 rfl ?_
  refine g_if_lt F dX4_low_25 (tgt := 60) (by decide) (fun c5 => ?_) (fun c5 => ?_)
  · replace h := h.1 c5
    refine g_iconst (v := (-1 : Int32)) F dX4_low_60 (by decide) ?_
    exact g_iret F R rfl rfl dX4_low_61 ⟨_, _, rfl, rfl, h⟩
  replace h := h.2 c5
  refine g_aload_n F dX4_low_28 0 rfl ?_
  refine rX4_X4_think F dX4_low_29 rfl h (fun s6 h => ?_)
  refine g_aload_n F dX4_low_32 0 rfl ?_
  refine rgX4_X4_thought F dX4_low_33 ?_
  refine g_iload_n F dX4_low_36 3 rfl ?_
  refine rpX4_X0_river fen12 F dX4_low_37 ?_
  refine g_name (wf := xW (zg z) a tx E) (fun s7 es7 => ?_)
  replace h := h s7 es7
  refine g_aload_n F dX4_low_40 0 rfl ?_
  refine g_iload_n F dX4_low_41 1 rfl ?_
  refine rX4_X4_dryBehind F hx dX4_low_42 rfl h (fun r9 s8 h => ?_)
  refine rX4_J6_bitCount F dX4_low_45 rfl h (fun r10 h => ?_)
  refine g_iload_n F dX4_low_48 2 rfl ?_
  refine g_icmp_lt F dX4_low_49 (tgt := 54) (by decide) (fun c11 => ?_) (fun c11 => ?_)
  · replace h := h.1 c11
    obtain ⟨x12, ex12⟩ : ∃ q : Int32, q = l3 + (-1 : Int32) := ⟨_, rfl⟩
    replace h := h x12 ex12
    refine g_iinc (lv' := [(3, .int x12), (0, .ref (a 0)), (1, .int l1), (2, .int l2)]) (d := (-1 : Int32)) F dX4_low_54 rfl 3 rfl (by decide) ex12.symm rfl ?_
    refine g_goto F dX4_low_57 (tgt := 24) (by decide) ?_
    exact (g_sub [1, 2, 3, 0] rfl h)
  replace h := h.2 c11
  refine g_iload_n F dX4_low_52 3 rfl ?_
  exact g_iret F R rfl rfl dX4_low_53 ⟨_, _, rfl, rfl, h⟩
set_option maxRecDepth 20000 in
theorem ctX4_low (l : Launch) (g : kG) (A : Nat → Prop) (a : Nat → Nat) (tx : List kTxt) (E : va_W) (hx : ∀ T ∈ tx, xIn g E T) {l1 : Int32} {l2 : Int32} {σ : kS} {Q : Int32 → kS → Prop} (h : wX4_low tx l1 l2 σ Q) : kCt l yX4_low cX4_low 4 (some .int) 6 196 0 0 g A [.ref (a 0), .int l1, .int l2] (xW g a tx E σ) (kPi (xW g a tx E) Q) := by
  refine kCt.of (lv0 := [(0, .ref (a 0)), (1, .int l1), (2, .int l2)]) (by decide +kernel) (Nat.le_of_ble_eq_true rfl) rfl (fun z hl hg hA F R => ?_)
  subst hl hg hA
  have F : kF z cX4_low RX4 4 { frames := 6, cells := 0, slots := 0, locals := 196 } := F
  unfold wX4_low at h
  refine g_iload_n F dX4_low_0 1 rfl ?_
  refine rX4_X4_areYears F dX4_low_1 rfl h (fun r1 h => ?_)
  refine g_if_eq F dX4_low_4 (tgt := 18) (by decide) (fun c2 => ?_) (fun c2 => ?_)
  · replace h := h.1 c2
    refine g_bipush (v := (-2 : Int32)) F dX4_low_18 (by decide) ?_
    exact g_iret F R rfl rfl dX4_low_20 ⟨_, _, rfl, rfl, h⟩
  replace h := h.2 c2
  refine g_iload_n F dX4_low_7 2 rfl ?_
  refine g_iconst (v := (1 : Int32)) F dX4_low_8 (by decide) ?_
  refine g_icmp_lt F dX4_low_9 (tgt := 18) (by decide) (fun c3 => ?_) (fun c3 => ?_)
  · replace h := h.1 c3
    refine g_bipush (v := (-2 : Int32)) F dX4_low_18 (by decide) ?_
    exact g_iret F R rfl rfl dX4_low_20 ⟨_, _, rfl, rfl, h⟩
  replace h := h.2 c3
  refine g_iload_n F dX4_low_12 2 rfl ?_
  refine g_bipush (v := (12 : Int32)) F dX4_low_13 (by decide) ?_
  refine g_icmp_le F dX4_low_15 (tgt := 21) (by decide) (fun c4 => ?_) (fun c4 => ?_)
  · replace h := h.1 c4
    refine g_bipush (v := (99 : Int32)) F dX4_low_21 (by decide) ?_
    refine g_istore_n (lv' := [(3, .int (99 : Int32)), (0, .ref (a 0)), (1, .int l1), (2, .int l2)]) F dX4_low_23 rfl rfl ?_
    exact g_sub [1, 2, 3, 0] rfl (sX4_low_24 F R hx h)
  replace h := h.2 c4
  refine g_bipush (v := (-2 : Int32)) F dX4_low_18 (by decide) ?_
  exact g_iret F R rfl rfl dX4_low_20 ⟨_, _, rfl, rfl, h⟩
set_option maxRecDepth 20000 in
theorem ctX4_floods (l : Launch) (g : kG) (A : Nat → Prop) (a : Nat → Nat) (tx : List kTxt) (E : va_W) (hx : ∀ T ∈ tx, xIn g E T) {l1 : Int32} {l2 : Int32} {σ : kS} {Q : Int32 → kS → Prop} (h : wX4_floods tx l1 l2 σ Q) : kCt l yX4_floods cX4_floods 4 (some .int) 7 218 0 0 g A [.ref (a 0), .int l1, .int l2] (xW g a tx E σ) (kPi (xW g a tx E) Q) := by
  refine kCt.of (lv0 := [(0, .ref (a 0)), (1, .int l1), (2, .int l2)]) (by decide +kernel) (Nat.le_of_ble_eq_true rfl) rfl (fun z hl hg hA F R => ?_)
  subst hl hg hA
  have F : kF z cX4_floods RX4 4 { frames := 7, cells := 0, slots := 0, locals := 218 } := F
  unfold wX4_floods at h
  refine g_iload_n F dX4_floods_0 1 rfl ?_
  refine g_if_lt F dX4_floods_1 (tgt := 22) (by decide) (fun c1 => ?_) (fun c1 => ?_)
  · replace h := h.1 c1
    refine g_bipush (v := (-2 : Int32)) F dX4_floods_22 (by decide) ?_
    exact g_iret F R rfl rfl dX4_floods_24 ⟨_, _, rfl, rfl, h⟩
  replace h := h.2 c1
  refine g_iload_n F dX4_floods_4 1 rfl ?_
  refine g_aload_n F dX4_floods_5 0 rfl ?_
  refine rgX4_X4_now F dX4_floods_6 ?_
  refine rgX4_X0_works fen3 F dX4_floods_9 ?_
  refine g_icmp_ge F dX4_floods_12 (tgt := 22) (by decide) (fun c2 => ?_) (fun c2 => ?_)
  · replace h := h.1 c2
    refine g_bipush (v := (-2 : Int32)) F dX4_floods_22 (by decide) ?_
    exact g_iret F R rfl rfl dX4_floods_24 ⟨_, _, rfl, rfl, h⟩
  replace h := h.2 c2
  refine g_iload_n F dX4_floods_15 2 rfl ?_
  refine rX4_X4_areYears F dX4_floods_16 rfl h (fun r3 h => ?_)
  refine g_if_ne F dX4_floods_19 (tgt := 25) (by decide) (fun c4 => ?_) (fun c4 => ?_)
  · replace h := h.1 c4
    refine g_aload_n F dX4_floods_25 0 rfl ?_
    refine rX4_X4_think F dX4_floods_26 rfl h (fun s5 h => ?_)
    refine g_aload_n F dX4_floods_29 0 rfl ?_
    refine g_iload_n F dX4_floods_30 2 rfl ?_
    refine rX4_X4_dryBehind F hx dX4_floods_31 rfl h (fun r7 s6 h => ?_)
    refine g_istore_n (lv' := [(3, .int r7), (0, .ref (a 0)), (1, .int l1), (2, .int l2)]) F dX4_floods_34 rfl rfl ?_
    refine g_aload_n F dX4_floods_35 1 rfl ?_
    refine g_iload_n F dX4_floods_36 2 rfl ?_
    refine g_iload_n F dX4_floods_37 3 rfl ?_
    refine rX4_X4_dryWithout F hx dX4_floods_38 rfl h (fun r9 s8 h => ?_)
    refine g_iload_n F dX4_floods_41 0 rfl ?_
    refine g_iconst (v := (-1 : Int32)) F dX4_floods_42 (by decide) ?_
    refine g_ixor F dX4_floods_43 ?_
    refine g_iand F dX4_floods_44 ?_
    exact g_iret F R rfl rfl dX4_floods_45 ⟨_, _, rfl, rfl, h⟩
  replace h := h.2 c4
  refine g_bipush (v := (-2 : Int32)) F dX4_floods_22 (by decide) ?_
  exact g_iret F R rfl rfl dX4_floods_24 ⟨_, _, rfl, rfl, h⟩
set_option maxRecDepth 20000 in
theorem sX4_isOfTells_9 {z : kZ} {a : Nat → Nat} {tx : List kTxt} {E : va_W}  {Q : Int32 → kS → Prop} {l1 : Int32} {σ : kS} (F : kF z cX4_isOfTells RX4 2 { frames := 0, cells := 0, slots := 0, locals := 40 }) (R : kR z (some .boolean) 0 0 (kPi (xW (zg z) a tx E) Q)) (h : wX4_isOfTells_9 Q l1 σ) : kV z (xW (zg z) a tx E σ) 0 0 9 [(0, .ref (a 0)), (1, .int l1)] [] := by
  unfold wX4_isOfTells_9 at h
  refine g_iload_n F dX4_isOfTells_9 1 rfl ?_
  refine g_bipush (v := (10 : Int32)) F dX4_isOfTells_10 (by decide) ?_
  refine g_icmp_lt F dX4_isOfTells_12 (tgt := 39) (by decide) (fun c3 => ?_) (fun c3 => ?_)
  · replace h := h.1 c3
    refine g_iconst (v := (0 : Int32)) F dX4_isOfTells_39 (by decide) ?_
    exact g_zret F R rfl rfl rfl dX4_isOfTells_40 ⟨_, _, rfl, rfl, h⟩
  replace h := h.2 c3
  refine g_iload_n F dX4_isOfTells_15 1 rfl ?_
  refine g_bipush (v := (40 : Int32)) F dX4_isOfTells_16 (by decide) ?_
  refine g_icmp_ge F dX4_isOfTells_18 (tgt := 39) (by decide) (fun c4 => ?_) (fun c4 => ?_)
  · replace h := h.1 c4
    refine g_iconst (v := (0 : Int32)) F dX4_isOfTells_39 (by decide) ?_
    exact g_zret F R rfl rfl rfl dX4_isOfTells_40 ⟨_, _, rfl, rfl, h⟩
  replace h := h.2 c4
  refine g_iload_n F dX4_isOfTells_21 1 rfl ?_
  refine g_bipush (v := (10 : Int32)) F dX4_isOfTells_22 (by decide) ?_
  refine g_irem F dX4_isOfTells_24 (by decide) ?_
  refine g_aload_n F dX4_isOfTells_25 0 rfl ?_
  refine rgX4_X4_now F dX4_isOfTells_26 ?_
  refine rgX4_X0_works fen3 F dX4_isOfTells_29 ?_
  refine g_icmp_ge F dX4_isOfTells_32 (tgt := 39) (by decide) (fun c5 => ?_) (fun c5 => ?_)
  · replace h := h.1 c5
    refine g_iconst (v := (0 : Int32)) F dX4_isOfTells_39 (by decide) ?_
    exact g_zret F R rfl rfl rfl dX4_isOfTells_40 ⟨_, _, rfl, rfl, h⟩
  replace h := h.2 c5
  refine g_iconst (v := (1 : Int32)) F dX4_isOfTells_35 (by decide) ?_
  refine g_goto F dX4_isOfTells_36 (tgt := 40) (by decide) ?_
  exact g_zret F R rfl rfl rfl dX4_isOfTells_40 ⟨_, _, rfl, rfl, h⟩
set_option maxRecDepth 20000 in
theorem ctX4_isOfTells (l : Launch) (g : kG) (A : Nat → Prop) (a : Nat → Nat) (tx : List kTxt) (E : va_W) {l1 : Int32} {σ : kS} {Q : Int32 → kS → Prop} (h : wX4_isOfTells l1 σ Q) : kCt l yX4_isOfTells cX4_isOfTells 2 (some .boolean) 0 40 0 0 g A [.ref (a 0), .int l1] (xW g a tx E σ) (kPi (xW g a tx E) Q) := by
  refine kCt.of (lv0 := [(0, .ref (a 0)), (1, .int l1)]) (by decide +kernel) (Nat.le_of_ble_eq_true rfl) rfl (fun z hl hg hA F R => ?_)
  subst hl hg hA
  have F : kF z cX4_isOfTells RX4 2 { frames := 0, cells := 0, slots := 0, locals := 40 } := F
  unfold wX4_isOfTells at h
  refine g_iload_n F dX4_isOfTells_0 1 rfl ?_
  refine g_if_lt F dX4_isOfTells_1 (tgt := 9) (by decide) (fun c1 => ?_) (fun c1 => ?_)
  · replace h := h.1 c1
    exact (sX4_isOfTells_9 F R h)
  replace h := h.2 c1
  refine g_iload_n F dX4_isOfTells_4 1 rfl ?_
  refine g_iconst (v := (3 : Int32)) F dX4_isOfTells_5 (by decide) ?_
  refine g_icmp_le F dX4_isOfTells_6 (tgt := 35) (by decide) (fun c2 => ?_) (fun c2 => ?_)
  · replace h := h.1 c2
    refine g_iconst (v := (1 : Int32)) F dX4_isOfTells_35 (by decide) ?_
    refine g_goto F dX4_isOfTells_36 (tgt := 40) (by decide) ?_
    exact g_zret F R rfl rfl rfl dX4_isOfTells_40 ⟨_, _, rfl, rfl, h⟩
  replace h := h.2 c2
  exact (sX4_isOfTells_9 F R h)
theorem rX4_X2_size {z : kZ} {cc : ByteArray} {nL : Nat} {rm : Room} {c n pc : Nat} {lv : List (Nat × Value)} {st : List Value} {a : Nat → Nat} {tx : List kTxt} {E : va_W} {σ : kS} {l1 : Int32} {Q : Int32 → kS → Prop} (F : kF z cc RX4 nL rm) (hd : decode cc pc = .ok (.invokevirtual 177, 3)) (hf : kFits rm 1 61 0 0 2 c n st = true) (h : wX2_size l1 σ Q) (k : ∀ (v : Int32) (σ' : kS), Q v σ' → kV z (xW (zg z) a tx E σ') c n (pc + 3) lv (.int v :: st)) : kV z (xW (zg z) a tx E σ) c n pc lv (.int l1 :: .ref (a 33) :: st) := by
  exact g_callV F (av := [.int l1]) (ctX2_size _ _ _ a tx E h) (ci := 2) (q0 := 33) rfl rfl rfl wq675 wq676 wq677 wq113 wq678 plX2_size hd hf (fun r ws' hq => by
    obtain ⟨v, σ', rfl, rfl, hq⟩ := hq
    exact k v σ' hq)
theorem plX2_at : kPlain yX2_at 2 = true := by decide +kernel
theorem rX4_X2_at {z : kZ} {cc : ByteArray} {nL : Nat} {rm : Room} {c n pc : Nat} {lv : List (Nat × Value)} {st : List Value} {a : Nat → Nat} {tx : List kTxt} {E : va_W} {σ : kS} {l1 : Int32} {l2 : Int32} {Q : Int32 → kS → Prop} (F : kF z cc RX4 nL rm) (hd : decode cc pc = .ok (.invokevirtual 249, 3)) (hf : kFits rm 3 104 0 0 3 c n st = true) (h : wX2_at l1 l2 σ Q) (k : ∀ (v : Int32) (σ' : kS), Q v σ' → kV z (xW (zg z) a tx E σ') c n (pc + 3) lv (.int v :: st)) : kV z (xW (zg z) a tx E σ) c n pc lv (.int l2 :: .int l1 :: .ref (a 33) :: st) := by
  exact g_callV F (av := [.int l1, .int l2]) (ctX2_at _ _ _ a tx E h) (ci := 2) (q0 := 33) rfl rfl rfl wq683 wq684 wq685 wq113 wq686 plX2_at hd hf (fun r ws' hq => by
    obtain ⟨v, σ', rfl, rfl, hq⟩ := hq
    exact k v σ' hq)
set_option maxRecDepth 20000 in
theorem sX4_firstOther_28 {z : kZ} {a : Nat → Nat} {tx : List kTxt} {E : va_W}  {Q : Int32 → kS → Prop} {l1 : Int32} {l5 : Int32} {l6 : Int32} {σ : kS} (F : kF z cX4_firstOther RX4 7 { frames := 5, cells := 0, slots := 0, locals := 174 }) (R : kR z (some .int) 0 0 (kPi (xW (zg z) a tx E) Q)) (hx : ∀ T ∈ tx, xIn (zg z) E T) (h : wX4_firstOther_28 tx Q l1 l5 l6 σ) : kV z (xW (zg z) a tx E σ) 0 0 28 [(0, .ref (a 0)), (1, .int l1), (5, .int l5), (6, .int l6)] [] := by
  unfold wX4_firstOther_28 at h
  refine h (fun σ l6 => kV z (xW (zg z) a tx E σ) 0 0 28 [(0, .ref (a 0)), (1, .int l1), (5, .int l5), (6, .int l6)] []) (fun σ l6 h => ?_)
  refine g_iload F dX4_firstOther_28 3 rfl ?_
  refine g_iload F dX4_firstOther_30 2 rfl ?_
  refine g_icmp_ge F dX4_firstOther_32 (tgt := 79) (by decide) (fun c5 => ?_) (fun c5 => ?_)
  · replace h := h.1 c5
    refine g_iconst (v := (-1 : Int32)) F dX4_firstOther_79 (by decide) ?_
    exact g_iret F R rfl rfl dX4_firstOther_80 ⟨_, _, rfl, rfl, h⟩
  replace h := h.2 c5
  refine g_aload_n F dX4_firstOther_35 0 rfl ?_
  refine rgX4_X4_thought F dX4_firstOther_36 ?_
  refine g_aload_n F dX4_firstOther_39 0 rfl ?_
  refine g_aload_n F dX4_firstOther_40 0 rfl ?_
  refine rgX4_X4_thought F dX4_firstOther_41 ?_
  refine rX4_X4_ruleOf F fen12 hx dX4_firstOther_44 rfl h (fun r7 hr7 s6 h => ?_)
  refine rX4_X0_passYear F fen12 hr7 dX4_firstOther_47 rfl h (fun s8 h => ?_)
  refine g_aload_n F dX4_firstOther_50 0 rfl ?_
  refine rgX4_X4_thought F dX4_firstOther_51 ?_
  refine rX4_X0_dryCells F fen12 dX4_firstOther_54 rfl h (fun r10 s9 h => ?_)
  refine g_aload_n F dX4_firstOther_57 0 rfl ?_
  refine rgX4_X4_sheets F dX4_firstOther_58 ?_
  refine g_iload_n F dX4_firstOther_61 1 rfl ?_
  refine g_iload F dX4_firstOther_62 3 rfl ?_
  refine rX4_X2_at F dX4_firstOther_64 rfl h (fun r12 s11 h => ?_)
  refine g_icmp_eq F dX4_firstOther_67 (tgt := 73) (by decide) (fun c13 => ?_) (fun c13 => ?_)
  · replace h := h.1 c13
    obtain ⟨x14, ex14⟩ : ∃ q : Int32, q = l6 + (1 : Int32) := ⟨_, rfl⟩
    replace h := h x14 ex14
    refine g_iinc (lv' := [(6, .int x14), (0, .ref (a 0)), (1, .int l1), (5, .int l5)]) (d := (1 : Int32)) F dX4_firstOther_73 rfl 3 rfl (by decide) ex14.symm rfl ?_
    refine g_goto F dX4_firstOther_76 (tgt := 28) (by decide) ?_
    exact (g_sub [1, 2, 3, 0] rfl h)
  replace h := h.2 c13
  refine g_iload F dX4_firstOther_70 3 rfl ?_
  exact g_iret F R rfl rfl dX4_firstOther_72 ⟨_, _, rfl, rfl, h⟩
set_option maxRecDepth 20000 in
theorem ctX4_firstOther (l : Launch) (g : kG) (A : Nat → Prop) (a : Nat → Nat) (tx : List kTxt) (E : va_W) (hx : ∀ T ∈ tx, xIn g E T) {l1 : Int32} {l2 : Int32} {l3 : Int32} {l4 : Int32} {σ : kS} {Q : Int32 → kS → Prop} (h : wX4_firstOther tx l1 l2 l3 l4 σ Q) : kCt l yX4_firstOther cX4_firstOther 7 (some .int) 5 174 0 0 g A [.ref (a 0), .int l1, .int l2, .int l3, .int l4] (xW g a tx E σ) (kPi (xW g a tx E) Q) := by
  refine kCt.of (lv0 := [(0, .ref (a 0)), (1, .int l1), (2, .int l2), (3, .int l3), (4, .int l4)]) (by decide +kernel) (Nat.le_of_ble_eq_true rfl) rfl (fun z hl hg hA F R => ?_)
  subst hl hg hA
  have F : kF z cX4_firstOther RX4 7 { frames := 5, cells := 0, slots := 0, locals := 174 } := F
  unfold wX4_firstOther at h
  refine g_aload_n F dX4_firstOther_0 0 rfl ?_
  refine rX4_X4_think F dX4_firstOther_1 rfl h (fun s1 h => ?_)
  refine g_aload_n F dX4_firstOther_4 0 rfl ?_
  refine rgX4_X4_thought F dX4_firstOther_5 ?_
  refine g_iload_n F dX4_firstOther_8 2 rfl ?_
  refine g_iload_n F dX4_firstOther_9 3 rfl ?_
  refine g_iload F dX4_firstOther_10 4 rfl ?_
  refine rX4_X0_put F fen12 dX4_firstOther_12 rfl h (fun s2 h => ?_)
  refine g_aload_n F dX4_firstOther_15 0 rfl ?_
  refine rgX4_X4_sheets F dX4_firstOther_16 ?_
  refine g_iload_n F dX4_firstOther_19 1 rfl ?_
  refine rX4_X2_size F dX4_firstOther_20 rfl h (fun r4 s3 h => ?_)
  refine g_istore (lv' := [(5, .int r4), (0, .ref (a 0)), (1, .int l1), (2, .int l2), (3, .int l3), (4, .int l4)]) F dX4_firstOther_23 rfl rfl ?_
  refine g_iconst (v := (0 : Int32)) F dX4_firstOther_25 (by decide) ?_
  refine g_istore (lv' := [(6, .int (0 : Int32)), (5, .int r4), (0, .ref (a 0)), (1, .int l1), (2, .int l2), (3, .int l3), (4, .int l4)]) F dX4_firstOther_26 rfl rfl ?_
  exact g_sub [2, 3, 1, 0] rfl (sX4_firstOther_28 F R hx h)
theorem plX4_firstOther : kPlain yX4_firstOther 4 = true := by decide +kernel
theorem rX4_X4_firstOther {z : kZ} {cc : ByteArray} {nL : Nat} {rm : Room} {c n pc : Nat} {lv : List (Nat × Value)} {st : List Value} {a : Nat → Nat} {tx : List kTxt} {E : va_W} {σ : kS} {l1 : Int32} {l2 : Int32} {l3 : Int32} {l4 : Int32} {Q : Int32 → kS → Prop} (F : kF z cc RX4 nL rm) (hx : ∀ T ∈ tx, xIn (zg z) E T) (hd : decode cc pc = .ok (.invokevirtual 179, 3)) (hf : kFits rm 5 174 0 0 7 c n st = true) (h : wX4_firstOther tx l1 l2 l3 l4 σ Q) (k : ∀ (v : Int32) (σ' : kS), Q v σ' → kV z (xW (zg z) a tx E σ') c n (pc + 3) lv (.int v :: st)) : kV z (xW (zg z) a tx E σ) c n pc lv (.int l4 :: .int l3 :: .int l2 :: .int l1 :: .ref (a 0) :: st) := by
  exact g_callV F (av := [.int l1, .int l2, .int l3, .int l4]) (ctX4_firstOther _ _ _ a tx E hx h) (ci := 4) (q0 := 0) rfl rfl rfl wq679 wq681 wq34 wq109 wq682 plX4_firstOther hd hf (fun r ws' hq => by
    obtain ⟨v, σ', rfl, rfl, hq⟩ := hq
    exact k v σ' hq)
set_option maxRecDepth 20000 in
theorem sX4_fitting_6 {z : kZ} {a : Nat → Nat} {tx : List kTxt} {E : va_W}  {Q : Int32 → kS → Prop} {l1 : Int32} {l2 : Int32} {l3 : Int32} {l4 : Int32} {l5 : Int32} {l6 : Int32} {σ : kS} (F : kF z cX4_fitting RX4 7 { frames := 6, cells := 0, slots := 0, locals := 200 }) (R : kR z (some .int) 0 0 (kPi (xW (zg z) a tx E) Q)) (hx : ∀ T ∈ tx, xIn (zg z) E T) (h : wX4_fitting_6 tx Q l1 l2 l3 l4 l5 l6 σ) : kV z (xW (zg z) a tx E σ) 0 0 6 [(0, .ref (a 0)), (1, .int l1), (2, .int l2), (3, .int l3), (4, .int l4), (5, .int l5), (6, .int l6)] [] := by
  unfold wX4_fitting_6 at h
  refine h (fun σ l5 l6 => kV z (xW (zg z) a tx E σ) 0 0 6 [(0, .ref (a 0)), (1, .int l1), (2, .int l2), (3, .int l3), (4, .int l4), (5, .int l5), (6, .int l6)] []) (fun σ l5 l6 h => ?_)
  refine g_iload F dX4_fitting_6 6 rfl ?_
  refine g_iload F dX4_fitting_8 4 rfl ?_
  refine g_icmp_ge F dX4_fitting_10 (tgt := 41) (by decide) (fun c1 => ?_) (fun c1 => ?_)
  · replace h := h.1 c1
    refine g_iload F dX4_fitting_41 5 rfl ?_
    exact g_iret F R rfl rfl dX4_fitting_43 ⟨_, _, rfl, rfl, h⟩
  replace h := h.2 c1
  refine g_aload_n F dX4_fitting_13 0 rfl ?_
  refine g_iload_n F dX4_fitting_14 1 rfl ?_
  refine g_iload_n F dX4_fitting_15 2 rfl ?_
  refine g_iload_n F dX4_fitting_16 3 rfl ?_
  refine g_iload F dX4_fitting_17 6 rfl ?_
  refine rX4_X4_firstOther F hx dX4_fitting_19 rfl h (fun r3 s2 h => ?_)
  refine g_iconst (v := (-1 : Int32)) F dX4_fitting_22 (by decide) ?_
  refine g_icmp_ne F dX4_fitting_23 (tgt := 35) (by decide) (fun c4 => ?_) (fun c4 => ?_)
  · replace h := h.1 c4
    obtain ⟨x5, ex5⟩ : ∃ q : Int32, q = l6 + (1 : Int32) := ⟨_, rfl⟩
    replace h := h x5 ex5
    refine g_iinc (lv' := [(6, .int x5), (0, .ref (a 0)), (1, .int l1), (2, .int l2), (3, .int l3), (4, .int l4), (5, .int l5)]) (d := (1 : Int32)) F dX4_fitting_35 rfl 6 rfl (by decide) ex5.symm rfl ?_
    refine g_goto F dX4_fitting_38 (tgt := 6) (by decide) ?_
    exact (g_sub [1, 2, 3, 4, 5, 6, 0] rfl h)
  replace h := h.2 c4
  refine g_iload F dX4_fitting_26 5 rfl ?_
  refine g_iconst (v := (1 : Int32)) F dX4_fitting_28 (by decide) ?_
  refine g_iload F dX4_fitting_29 6 rfl ?_
  refine g_ishl F dX4_fitting_31 ?_
  refine g_ior F dX4_fitting_32 ?_
  refine g_topi (fun x6 ex6 => ?_)
  replace h := h x6 ex6
  refine g_istore (lv' := [(5, .int x6), (0, .ref (a 0)), (1, .int l1), (2, .int l2), (3, .int l3), (4, .int l4), (6, .int l6)]) F dX4_fitting_33 rfl rfl ?_
  obtain ⟨x7, ex7⟩ : ∃ q : Int32, q = l6 + (1 : Int32) := ⟨_, rfl⟩
  replace h := h x7 ex7
  refine g_iinc (lv' := [(6, .int x7), (5, .int x6), (0, .ref (a 0)), (1, .int l1), (2, .int l2), (3, .int l3), (4, .int l4)]) (d := (1 : Int32)) F dX4_fitting_35 rfl 6 rfl (by decide) ex7.symm rfl ?_
  refine g_goto F dX4_fitting_38 (tgt := 6) (by decide) ?_
  exact (g_sub [2, 3, 4, 5, 6, 1, 0] rfl h)
set_option maxRecDepth 20000 in
theorem ctX4_fitting (l : Launch) (g : kG) (A : Nat → Prop) (a : Nat → Nat) (tx : List kTxt) (E : va_W) (hx : ∀ T ∈ tx, xIn g E T) {l1 : Int32} {l2 : Int32} {l3 : Int32} {l4 : Int32} {σ : kS} {Q : Int32 → kS → Prop} (h : wX4_fitting tx l1 l2 l3 l4 σ Q) : kCt l yX4_fitting cX4_fitting 7 (some .int) 6 200 0 0 g A [.ref (a 0), .int l1, .int l2, .int l3, .int l4] (xW g a tx E σ) (kPi (xW g a tx E) Q) := by
  refine kCt.of (lv0 := [(0, .ref (a 0)), (1, .int l1), (2, .int l2), (3, .int l3), (4, .int l4)]) (by decide +kernel) (Nat.le_of_ble_eq_true rfl) rfl (fun z hl hg hA F R => ?_)
  subst hl hg hA
  have F : kF z cX4_fitting RX4 7 { frames := 6, cells := 0, slots := 0, locals := 200 } := F
  unfold wX4_fitting at h
  refine g_iconst (v := (0 : Int32)) F dX4_fitting_0 (by decide) ?_
  refine g_istore (lv' := [(5, .int (0 : Int32)), (0, .ref (a 0)), (1, .int l1), (2, .int l2), (3, .int l3), (4, .int l4)]) F dX4_fitting_1 rfl rfl ?_
  refine g_iconst (v := (0 : Int32)) F dX4_fitting_3 (by decide) ?_
  refine g_istore (lv' := [(6, .int (0 : Int32)), (5, .int (0 : Int32)), (0, .ref (a 0)), (1, .int l1), (2, .int l2), (3, .int l3), (4, .int l4)]) F dX4_fitting_4 rfl rfl ?_
  exact g_sub [2, 3, 4, 5, 6, 1, 0] rfl (sX4_fitting_6 F R hx h)
