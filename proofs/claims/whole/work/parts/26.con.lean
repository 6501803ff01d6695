theorem plX0_says : kPlain yX0_says 4 = true := by decide +kernel
theorem rX0_X0_says {z : kZ} {cc : ByteArray} {nL : Nat} {rm : Room} {c n pc : Nat} {lv : List (Nat × Value)} {st : List Value} {a : Nat → Nat} {tx : List kTxt} {E : va_W} {σ : kS} {b : Nat} {T : kTxt} {l2 : Int32} {l3 : Int32} {l4 : Int32} {Q : Int32 → kS → Prop} (F : kF z cc RX0 nL rm) (hb : isFen b) (hT : xIn (zg z) E T) (hd : decode cc pc = .ok (.invokevirtual 84, 3)) (hf : kFits rm 1 80 0 0 9 c n st = true) (h : wX0_says b T l2 l3 l4 σ Q) (k : ∀ (v : Int32) (σ' : kS), Q v σ' → kV z (xW (zg z) a tx E σ') c n (pc + 3) lv (.int v :: st)) : kV z (xW (zg z) a tx E σ) c n pc lv (.int l4 :: .int l3 :: .int l2 :: .ref T.1 :: .ref (a b) :: st) := by
  exact g_callV F (av := [.ref T.1, .int l2, .int l3, .int l4]) (ctX0_says _ _ _ a tx E hb hT h) (ci := 0) (q0 := b) rfl (xFen_at hb) rfl wq342 wq343 wq344 wq110 wq345 plX0_says hd hf (fun r ws' hq => by
    obtain ⟨v, σ', rfl, rfl, hq⟩ := hq
    exact k v σ' hq)
set_option maxRecDepth 20000 in
theorem ctX0_costs (l : Launch) (g : kG) (A : Nat → Prop) (a : Nat → Nat) (tx : List kTxt) (E : va_W) {b : Nat} {T : kTxt} (hb : isFen b) (hT : xIn g E T) {l2 : Int32} {σ : kS} {Q : Int32 → kS → Prop} (h : wX0_costs b T l2 σ Q) : kCt l yX0_costs cX0_costs 4 (some .int) 2 108 0 0 g A [.ref (a b), .ref T.1, .int l2] (xW g a tx E σ) (kPi (xW g a tx E) Q) := by
  refine kCt.of (lv0 := [(0, .ref (a b)), (1, .ref T.1), (2, .int l2)]) (by decide +kernel) (Nat.le_of_ble_eq_true rfl) rfl (fun z hl hg hA F R => ?_)
  subst hl hg hA
  have F : kF z cX0_costs RX0 4 { frames := 2, cells := 0, slots := 0, locals := 108 } := F
  unfold wX0_costs at h
  refine g_iload_n F dX0_costs_0 2 rfl ?_
  refine g_if_lt F dX0_costs_1 (tgt := 12) (by decide) (fun c1 => ?_) (fun c1 => ?_)
  · replace h := h.1 c1
    refine g_iconst (v := (0 : Int32)) F dX0_costs_12 (by decide) ?_
    exact g_iret F R rfl rfl dX0_costs_13 ⟨_, _, rfl, rfl, h⟩
  replace h := h.2 c1
  refine g_iload_n F dX0_costs_4 2 rfl ?_
  refine g_aload_n F dX0_costs_5 0 rfl ?_
  refine rgX0_X0_works hb F dX0_costs_6 ?_
  refine g_icmp_lt F dX0_costs_9 (tgt := 14) (by decide) (fun c2 => ?_) (fun c2 => ?_)
  · replace h := h.1 c2
    refine g_aload_n F dX0_costs_14 0 rfl ?_
    refine g_aload_n F dX0_costs_15 1 rfl ?_
    refine g_iconst (v := (2 : Int32)) F dX0_costs_16 (by decide) ?_
    refine g_aload_n F dX0_costs_17 0 rfl ?_
    refine rgX0_X0_place hb F dX0_costs_18 ?_
    refine g_iload_n F dX0_costs_21 2 rfl ?_
    obtain ⟨hc, h⟩ := h
    refine g_iald (wf := xW (zg z) a tx E) F (xAF6 hb) hc dX0_costs_22 ?_
    refine g_iload_n F dX0_costs_23 2 rfl ?_
    refine rX0_X0_says F hb hT dX0_costs_24 rfl h (fun r4 s3 h => ?_)
    refine g_istore_n (lv' := [(3, .int r4), (0, .ref (a b)), (1, .ref T.1), (2, .int l2)]) F dX0_costs_27 rfl rfl ?_
    refine g_aload_n F dX0_costs_28 1 rfl ?_
    refine rgX0_X0_kind hb F dX0_costs_29 ?_
    refine g_iload_n F dX0_costs_32 3 rfl ?_
    obtain ⟨hc, h⟩ := h
    refine g_iald (wf := xW (zg z) a tx E) F (xAF4 hb) hc dX0_costs_33 ?_
    by_cases c5 : (s3.1 (b + 4) l2.toNatClampNeg) = (1 : Int32)
    · replace h := h.1 c5
      refine g_tableIn F dX0_costs_34 (1 : Int32) c5 (off := 30) (tgt := 64) (by decide) (by decide) ?_
      refine g_iload_n F dX0_costs_64 0 rfl ?_
      refine g_iconst (v := (2 : Int32)) F dX0_costs_65 (by decide) ?_
      refine g_idiv F dX0_costs_66 (by decide) ?_
      exact g_iret F R rfl rfl dX0_costs_67 ⟨_, _, rfl, rfl, h⟩
    replace h := h.2
    by_cases c6 : (s3.1 (b + 4) l2.toNatClampNeg) = (2 : Int32)
    · replace h := h.1 c6
      refine g_tableIn F dX0_costs_34 (2 : Int32) c6 (off := 34) (tgt := 68) (by decide) (by decide) ?_
      refine g_iconst (v := (2 : Int32)) F dX0_costs_68 (by decide) ?_
      refine g_iload_n F dX0_costs_69 0 rfl ?_
      refine g_imul F dX0_costs_70 ?_
      exact g_iret F R rfl rfl dX0_costs_71 ⟨_, _, rfl, rfl, h⟩
    replace h := h.2
    by_cases c7 : (s3.1 (b + 4) l2.toNatClampNeg) = (3 : Int32)
    · replace h := h.1 c7
      refine g_tableIn F dX0_costs_34 (3 : Int32) c7 (off := 38) (tgt := 72) (by decide) (by decide) ?_
      refine g_iload_n F dX0_costs_72 0 rfl ?_
      refine g_iconst (v := (2 : Int32)) F dX0_costs_73 (by decide) ?_
      refine g_idiv F dX0_costs_74 (by decide) ?_
      refine g_aload_n F dX0_costs_75 1 rfl ?_
      refine rgX0_X0_number hb F dX0_costs_76 ?_
      refine g_iload_n F dX0_costs_79 3 rfl ?_
      obtain ⟨hc, h⟩ := h
      refine g_iald (wf := xW (zg z) a tx E) F (xAF5 hb) hc dX0_costs_80 ?_
      refine g_iadd F dX0_costs_81 ?_
      exact g_iret F R rfl rfl dX0_costs_82 ⟨_, _, rfl, rfl, h⟩
    replace h := h.2
    by_cases c8 : (s3.1 (b + 4) l2.toNatClampNeg) = (4 : Int32)
    · replace h := h.1 c8
      refine g_tableIn F dX0_costs_34 (4 : Int32) c8 (off := 49) (tgt := 83) (by decide) (by decide) ?_
      refine g_iconst (v := (2 : Int32)) F dX0_costs_83 (by decide) ?_
      refine g_iload_n F dX0_costs_84 0 rfl ?_
      refine g_imul F dX0_costs_85 ?_
      refine g_aload_n F dX0_costs_86 1 rfl ?_
      refine rgX0_X0_number hb F dX0_costs_87 ?_
      refine g_iload_n F dX0_costs_90 3 rfl ?_
      obtain ⟨hc, h⟩ := h
      refine g_iald (wf := xW (zg z) a tx E) F (xAF5 hb) hc dX0_costs_91 ?_
      refine g_iadd F dX0_costs_92 ?_
      exact g_iret F R rfl rfl dX0_costs_93 ⟨_, _, rfl, rfl, h⟩
    replace h := h.2
    replace h := h c5 c6 c7 c8
    refine g_tableOut F dX0_costs_34 4 (by decide) (lt_s (lt_s (lt_s (lt_s (lt_0) c5) c6) c7) c8) (tgt := 94) (by decide) ?_
    refine g_iload_n F dX0_costs_94 0 rfl ?_
    exact g_iret F R rfl rfl dX0_costs_95 ⟨_, _, rfl, rfl, h⟩
  replace h := h.2 c2
  refine g_iconst (v := (0 : Int32)) F dX0_costs_12 (by decide) ?_
  exact g_iret F R rfl rfl dX0_costs_13 ⟨_, _, rfl, rfl, h⟩
set_option maxRecDepth 20000 in
theorem ctX0_pour (l : Launch) (g : kG) (A : Nat → Prop) (a : Nat → Nat) (tx : List kTxt) (E : va_W) {b : Nat} (hb : isFen b) {l1 : Int32} {l2 : Int32} {σ : kS} {Q : kS → Prop} (h : wX0_pour b l1 l2 σ Q) : kCt l yX0_pour cX0_pour 3 none 1 80 0 0 g A [.ref (a b), .int l1, .int l2] (xW g a tx E σ) (kPv (xW g a tx E) Q) := by
  refine kCt.of (lv0 := [(0, .ref (a b)), (1, .int l1), (2, .int l2)]) (by decide +kernel) (Nat.le_of_ble_eq_true rfl) rfl (fun z hl hg hA F R => ?_)
  subst hl hg hA
  have F : kF z cX0_pour RX0 3 { frames := 1, cells := 0, slots := 0, locals := 80 } := F
  unfold wX0_pour at h
  refine g_aload_n F dX0_pour_0 0 rfl ?_
  refine rgX0_X0_water hb F dX0_pour_1 ?_
  refine g_iload_n F dX0_pour_4 1 rfl ?_
  refine g_sipush (v := (999 : Int32)) F dX0_pour_5 (by decide) ?_
  refine g_aload_n F dX0_pour_8 0 rfl ?_
  refine rgX0_X0_water hb F dX0_pour_9 ?_
  refine g_iload_n F dX0_pour_12 1 rfl ?_
  obtain ⟨hc, h⟩ := h
  refine g_iald (wf := xW (zg z) a tx E) F (xAF3 hb) hc dX0_pour_13 ?_
  refine g_iload_n F dX0_pour_14 2 rfl ?_
  refine g_iadd F dX0_pour_15 ?_
  refine g_min F wq331 wq332 wq115 wq333 dX0_pour_16 rfl ?_
  obtain ⟨hc, h⟩ := h
  refine g_iast (wf := xW (zg z) a tx E) F (xAF3 hb) hc dX0_pour_19 ?_
  refine g_name (wf := xW (zg z) a tx E) (fun s1 es1 => ?_)
  replace h := h s1 es1
  exact g_vret F R rfl rfl dX0_pour_20 ⟨_, rfl, rfl, h⟩
theorem plX0_pour : kPlain yX0_pour 2 = true := by decide +kernel
theorem rX0_X0_pour {z : kZ} {cc : ByteArray} {nL : Nat} {rm : Room} {c n pc : Nat} {lv : List (Nat × Value)} {st : List Value} {a : Nat → Nat} {tx : List kTxt} {E : va_W} {σ : kS} {b : Nat} {l1 : Int32} {l2 : Int32} {Q : kS → Prop} (F : kF z cc RX0 nL rm) (hb : isFen b) (hd : decode cc pc = .ok (.invokevirtual 101, 3)) (hf : kFits rm 1 80 0 0 3 c n st = true) (h : wX0_pour b l1 l2 σ Q) (k : ∀ σ' : kS, Q σ' → kV z (xW (zg z) a tx E σ') c n (pc + 3) lv st) : kV z (xW (zg z) a tx E σ) c n pc lv (.int l2 :: .int l1 :: .ref (a b) :: st) := by
  exact g_callV F (av := [.int l1, .int l2]) (ctX0_pour _ _ _ a tx E hb h) (ci := 0) (q0 := b) rfl (xFen_at hb) rfl wq540 wq542 wq18 wq110 wq543 plX0_pour hd hf (fun r ws' hq => by
    obtain ⟨σ', rfl, rfl, hq⟩ := hq
    exact k σ' hq)
set_option maxRecDepth 20000 in
theorem sX0_rain_2 {z : kZ} {a : Nat → Nat} {tx : List kTxt} {E : va_W} {b : Nat} {T : kTxt} {Q : kS → Prop} {l2 : Int32} {σ : kS} (F : kF z cX0_rain RX0 3 { frames := 2, cells := 0, slots := 0, locals := 108 }) (R : kR z none 0 0 (kPv (xW (zg z) a tx E) Q)) (hb : isFen b) (hT : xIn (zg z) E T) (h : wX0_rain_2 b T Q l2 σ) : kV z (xW (zg z) a tx E σ) 0 0 2 [(0, .ref (a b)), (1, .ref T.1), (2, .int l2)] [] := by
  unfold wX0_rain_2 at h
  refine h (fun σ l2 => kV z (xW (zg z) a tx E σ) 0 0 2 [(0, .ref (a b)), (1, .ref T.1), (2, .int l2)] []) (fun σ l2 h => ?_)
  refine g_iload_n F dX0_rain_2 2 rfl ?_
  refine g_bipush (v := (12 : Int32)) F dX0_rain_3 (by decide) ?_
  refine g_icmp_ge F dX0_rain_5 (tgt := 27) (by decide) (fun c1 => ?_) (fun c1 => ?_)
  · replace h := h.1 c1
    exact g_vret F R rfl rfl dX0_rain_27 ⟨_, rfl, rfl, h⟩
  replace h := h.2 c1
  refine g_aload_n F dX0_rain_8 0 rfl ?_
  refine g_iload_n F dX0_rain_9 2 rfl ?_
  refine g_aload_n F dX0_rain_10 0 rfl ?_
  refine g_aload_n F dX0_rain_11 1 rfl ?_
  refine g_iconst (v := (0 : Int32)) F dX0_rain_12 (by decide) ?_
  refine g_iload_n F dX0_rain_13 2 rfl ?_
  refine g_iconst (v := (-1 : Int32)) F dX0_rain_14 (by decide) ?_
  refine rX0_X0_says F hb hT dX0_rain_15 rfl h (fun r3 s2 h => ?_)
  refine rX0_X0_pour F hb dX0_rain_18 rfl h (fun s4 h => ?_)
  obtain ⟨x5, ex5⟩ : ∃ q : Int32, q = l2 + (1 : Int32) := ⟨_, rfl⟩
  replace h := h x5 ex5
  refine g_iinc (lv' := [(2, .int x5), (0, .ref (a b)), (1, .ref T.1)]) (d := (1 : Int32)) F dX0_rain_21 rfl 2 rfl (by decide) ex5.symm rfl ?_
  refine g_goto F dX0_rain_24 (tgt := 2) (by decide) ?_
  exact (g_sub [1, 2, 0] rfl h)
set_option maxRecDepth 20000 in
theorem ctX0_rain (l : Launch) (g : kG) (A : Nat → Prop) (a : Nat → Nat) (tx : List kTxt) (E : va_W) {b : Nat} {T : kTxt} (hb : isFen b) (hT : xIn g E T) {σ : kS} {Q : kS → Prop} (h : wX0_rain b T σ Q) : kCt l yX0_rain cX0_rain 3 none 2 108 0 0 g A [.ref (a b), .ref T.1] (xW g a tx E σ) (kPv (xW g a tx E) Q) := by
  refine kCt.of (lv0 := [(0, .ref (a b)), (1, .ref T.1)]) (by decide +kernel) (Nat.le_of_ble_eq_true rfl) rfl (fun z hl hg hA F R => ?_)
  subst hl hg hA
  have F : kF z cX0_rain RX0 3 { frames := 2, cells := 0, slots := 0, locals := 108 } := F
  unfold wX0_rain at h
  refine g_iconst (v := (0 : Int32)) F dX0_rain_0 (by decide) ?_
  refine g_istore_n (lv' := [(2, .int (0 : Int32)), (0, .ref (a b)), (1, .ref T.1)]) F dX0_rain_1 rfl rfl ?_
  exact g_sub [1, 2, 0] rfl (sX0_rain_2 F R hb hT h)
theorem plX0_holds : kPlain yX0_holds 1 = true := by decide +kernel
theorem rX0_X0_holds {z : kZ} {cc : ByteArray} {nL : Nat} {rm : Room} {c n pc : Nat} {lv : List (Nat × Value)} {st : List Value} {ws : va_W} {l0 : Int32} {Q : Int32 → Prop} (F : kF z cc RX0 nL rm) (hd : decode cc pc = .ok (.invokestatic 105, 3)) (hf : kFits rm 0 40 0 0 1 c n st = true) (h : wX0_holds l0 Q) (k : ∀ v : Int32, Q v → kV z ws c n (pc + 3) lv (.int v :: st)) : kV z ws c n pc lv (.int l0 :: st) := g_callS F (av := [.int l0]) (ctX0_holds _ _ _ ws h) wq556 wq557 wq110 wq558 plX0_holds hd hf (fun r ws' hq => by
    obtain ⟨v, rfl, rfl, hq⟩ := hq
    exact k v hq)
set_option maxRecDepth 20000 in
theorem sX0_heldCells_4 {z : kZ} {a : Nat → Nat} {tx : List kTxt} {E : va_W} {b : Nat} {Q : Int32 → kS → Prop} {l1 : Int32} {l2 : Int32} {σ : kS} (F : kF z cX0_heldCells RX0 3 { frames := 1, cells := 0, slots := 0, locals := 61 }) (R : kR z (some .int) 0 0 (kPi (xW (zg z) a tx E) Q)) (hb : isFen b) (h : wX0_heldCells_4 b Q l1 l2 σ) : kV z (xW (zg z) a tx E σ) 0 0 4 [(0, .ref (a b)), (1, .int l1), (2, .int l2)] [] := by
  unfold wX0_heldCells_4 at h
  refine h (fun σ l1 l2 => kV z (xW (zg z) a tx E σ) 0 0 4 [(0, .ref (a b)), (1, .int l1), (2, .int l2)] []) (fun σ l1 l2 h => ?_)
  refine g_iload_n F dX0_heldCells_4 2 rfl ?_
  refine g_bipush (v := (6 : Int32)) F dX0_heldCells_5 (by decide) ?_
  refine g_icmp_ge F dX0_heldCells_7 (tgt := 47) (by decide) (fun c1 => ?_) (fun c1 => ?_)
  · replace h := h.1 c1
    refine g_iload_n F dX0_heldCells_47 1 rfl ?_
    exact g_iret F R rfl rfl dX0_heldCells_48 ⟨_, _, rfl, rfl, h⟩
  replace h := h.2 c1
  refine g_aload_n F dX0_heldCells_10 0 rfl ?_
  refine g_iload_n F dX0_heldCells_11 2 rfl ?_
  refine rX0_X0_goes F hb dX0_heldCells_12 rfl h (fun r3 s2 h => ?_)
  refine g_if_eq F dX0_heldCells_15 (tgt := 41) (by decide) (fun c4 => ?_) (fun c4 => ?_)
  · replace h := h.1 c4
    obtain ⟨x5, ex5⟩ : ∃ q : Int32, q = l2 + (1 : Int32) := ⟨_, rfl⟩
    replace h := h x5 ex5
    refine g_iinc (lv' := [(2, .int x5), (0, .ref (a b)), (1, .int l1)]) (d := (1 : Int32)) F dX0_heldCells_41 rfl 2 rfl (by decide) ex5.symm rfl ?_
    refine g_goto F dX0_heldCells_44 (tgt := 4) (by decide) ?_
    exact (g_sub [1, 2, 0] rfl h)
  replace h := h.2 c4
  refine g_aload_n F dX0_heldCells_18 0 rfl ?_
  refine rgX0_X0_kind hb F dX0_heldCells_19 ?_
  refine g_iload_n F dX0_heldCells_22 2 rfl ?_
  obtain ⟨hc, h⟩ := h
  refine g_iald (wf := xW (zg z) a tx E) F (xAF4 hb) hc dX0_heldCells_23 ?_
  refine rX0_X0_holds F dX0_heldCells_24 rfl h (fun r6 h => ?_)
  refine g_if_eq F dX0_heldCells_27 (tgt := 41) (by decide) (fun c7 => ?_) (fun c7 => ?_)
  · replace h := h.1 c7
    obtain ⟨x8, ex8⟩ : ∃ q : Int32, q = l2 + (1 : Int32) := ⟨_, rfl⟩
    replace h := h x8 ex8
    refine g_iinc (lv' := [(2, .int x8), (0, .ref (a b)), (1, .int l1)]) (d := (1 : Int32)) F dX0_heldCells_41 rfl 2 rfl (by decide) ex8.symm rfl ?_
    refine g_goto F dX0_heldCells_44 (tgt := 4) (by decide) ?_
    exact (g_sub [1, 2, 0] rfl h)
  replace h := h.2 c7
  refine g_iload_n F dX0_heldCells_30 1 rfl ?_
  refine g_iconst (v := (1 : Int32)) F dX0_heldCells_31 (by decide) ?_
  refine g_aload_n F dX0_heldCells_32 0 rfl ?_
  refine rgX0_X0_place hb F dX0_heldCells_33 ?_
  refine g_iload_n F dX0_heldCells_36 2 rfl ?_
  obtain ⟨hc, h⟩ := h
  refine g_iald (wf := xW (zg z) a tx E) F (xAF6 hb) hc dX0_heldCells_37 ?_
  refine g_ishl F dX0_heldCells_38 ?_
  refine g_ior F dX0_heldCells_39 ?_
  refine g_topi (fun x9 ex9 => ?_)
  replace h := h x9 ex9
  refine g_istore_n (lv' := [(1, .int x9), (0, .ref (a b)), (2, .int l2)]) F dX0_heldCells_40 rfl rfl ?_
  obtain ⟨x10, ex10⟩ : ∃ q : Int32, q = l2 + (1 : Int32) := ⟨_, rfl⟩
  replace h := h x10 ex10
  refine g_iinc (lv' := [(2, .int x10), (1, .int x9), (0, .ref (a b))]) (d := (1 : Int32)) F dX0_heldCells_41 rfl 2 rfl (by decide) ex10.symm rfl ?_
  refine g_goto F dX0_heldCells_44 (tgt := 4) (by decide) ?_
  exact (g_sub [2, 1, 0] rfl h)
set_option maxRecDepth 20000 in
theorem ctX0_heldCells (l : Launch) (g : kG) (A : Nat → Prop) (a : Nat → Nat) (tx : List kTxt) (E : va_W) {b : Nat} (hb : isFen b) {σ : kS} {Q : Int32 → kS → Prop} (h : wX0_heldCells b σ Q) : kCt l yX0_heldCells cX0_heldCells 3 (some .int) 1 61 0 0 g A [.ref (a b)] (xW g a tx E σ) (kPi (xW g a tx E) Q) := by
  refine kCt.of (lv0 := [(0, .ref (a b))]) (by decide +kernel) (Nat.le_of_ble_eq_true rfl) rfl (fun z hl hg hA F R => ?_)
  subst hl hg hA
  have F : kF z cX0_heldCells RX0 3 { frames := 1, cells := 0, slots := 0, locals := 61 } := F
  unfold wX0_heldCells at h
  refine g_iconst (v := (0 : Int32)) F dX0_heldCells_0 (by decide) ?_
  refine g_istore_n (lv' := [(1, .int (0 : Int32)), (0, .ref (a b))]) F dX0_heldCells_1 rfl rfl ?_
  refine g_iconst (v := (0 : Int32)) F dX0_heldCells_2 (by decide) ?_
  refine g_istore_n (lv' := [(2, .int (0 : Int32)), (1, .int (0 : Int32)), (0, .ref (a b))]) F dX0_heldCells_3 rfl rfl ?_
  exact g_sub [2, 1, 0] rfl (sX0_heldCells_4 F R hb h)
set_option maxRecDepth 20000 in
theorem ctX0_meetRiver (l : Launch) (g : kG) (A : Nat → Prop) (a : Nat → Nat) (tx : List kTxt) (E : va_W) {b : Nat} (hb : isFen b) {l1 : Int32} {σ : kS} {Q : kS → Prop} (h : wX0_meetRiver b l1 σ Q) : kCt l yX0_meetRiver cX0_meetRiver 3 none 2 102 0 0 g A [.ref (a b), .int l1] (xW g a tx E σ) (kPv (xW g a tx E) Q) := by
  refine kCt.of (lv0 := [(0, .ref (a b)), (1, .int l1)]) (by decide +kernel) (Nat.le_of_ble_eq_true rfl) rfl (fun z hl hg hA F R => ?_)
  subst hl hg hA
  have F : kF z cX0_meetRiver RX0 3 { frames := 2, cells := 0, slots := 0, locals := 102 } := F
  unfold wX0_meetRiver at h
  refine g_aload_n F dX0_meetRiver_0 0 rfl ?_
  refine rgX0_X0_height hb F dX0_meetRiver_1 ?_
  refine g_iconst (v := (0 : Int32)) F dX0_meetRiver_4 (by decide) ?_
  refine g_iald (wf := xW (zg z) a tx E) F (xAF1 hb) (kIn rfl) dX0_meetRiver_5 ?_
  refine g_aload_n F dX0_meetRiver_6 0 rfl ?_
  refine rgX0_X0_water hb F dX0_meetRiver_7 ?_
  refine g_iconst (v := (0 : Int32)) F dX0_meetRiver_10 (by decide) ?_
  refine g_iald (wf := xW (zg z) a tx E) F (xAF3 hb) (kIn rfl) dX0_meetRiver_11 ?_
  refine g_iadd F dX0_meetRiver_12 ?_
  refine g_aload_n F dX0_meetRiver_13 0 rfl ?_
  refine rgX0_X0_river hb F dX0_meetRiver_14 ?_
  refine g_isub F dX0_meetRiver_17 ?_
  refine g_topi (fun x1 ex1 => ?_)
  replace h := h x1 ex1
  refine g_istore_n (lv' := [(2, .int x1), (0, .ref (a b)), (1, .int l1)]) F dX0_meetRiver_18 rfl rfl ?_
  refine g_iload_n F dX0_meetRiver_19 0 rfl ?_
  refine g_if_le F dX0_meetRiver_20 (tgt := 47) (by decide) (fun c2 => ?_) (fun c2 => ?_)
  · replace h := h.1 c2
    refine g_iload_n F dX0_meetRiver_47 2 rfl ?_
    refine g_if_ne F dX0_meetRiver_48 (tgt := 60) (by decide) (fun c3 => ?_) (fun c3 => ?_)
    · replace h := h.1 c3
      exact g_vret F R rfl rfl dX0_meetRiver_60 ⟨_, rfl, rfl, h⟩
    replace h := h.2 c3
    refine g_aload_n F dX0_meetRiver_51 1 rfl ?_
    refine g_iconst (v := (0 : Int32)) F dX0_meetRiver_52 (by decide) ?_
    refine g_iload_n F dX0_meetRiver_53 0 rfl ?_
    refine g_ineg F dX0_meetRiver_54 ?_
    refine g_iconst (v := (2 : Int32)) F dX0_meetRiver_55 (by decide) ?_
    refine g_idiv F dX0_meetRiver_56 (by decide) ?_
    refine rX0_X0_pour F hb dX0_meetRiver_57 rfl h (fun s4 h => ?_)
    exact g_vret F R rfl rfl dX0_meetRiver_60 ⟨_, rfl, rfl, h⟩
  replace h := h.2 c2
  refine g_aload_n F dX0_meetRiver_23 1 rfl ?_
  refine rgX0_X0_water hb F dX0_meetRiver_24 ?_
  refine g_iconst (v := (0 : Int32)) F dX0_meetRiver_27 (by decide) ?_
  refine g_dup2_11 F dX0_meetRiver_28 rfl rfl ?_
  refine g_iald (wf := xW (zg z) a tx E) F (xAF3 hb) (kIn rfl) dX0_meetRiver_29 ?_
  refine g_iload_n F dX0_meetRiver_30 0 rfl ?_
  refine g_iconst (v := (2 : Int32)) F dX0_meetRiver_31 (by decide) ?_
  refine g_idiv F dX0_meetRiver_32 (by decide) ?_
  refine g_aload_n F dX0_meetRiver_33 1 rfl ?_
  refine rgX0_X0_water hb F dX0_meetRiver_34 ?_
  refine g_iconst (v := (0 : Int32)) F dX0_meetRiver_37 (by decide) ?_
  refine g_iald (wf := xW (zg z) a tx E) F (xAF3 hb) (kIn rfl) dX0_meetRiver_38 ?_
  refine g_min F wq331 wq332 wq115 wq333 dX0_meetRiver_39 rfl ?_
  refine g_isub F dX0_meetRiver_42 ?_
  refine g_iast (wf := xW (zg z) a tx E) F (xAF3 hb) (kIn rfl) dX0_meetRiver_43 ?_
  refine g_name (wf := xW (zg z) a tx E) (fun s5 es5 => ?_)
  replace h := h s5 es5
  refine g_goto F dX0_meetRiver_44 (tgt := 60) (by decide) ?_
  exact g_vret F R rfl rfl dX0_meetRiver_60 ⟨_, rfl, rfl, h⟩
theorem plX0_heldCells : kPlain yX0_heldCells 0 = true := by decide +kernel
theorem rX0_X0_heldCells {z : kZ} {cc : ByteArray} {nL : Nat} {rm : Room} {c n pc : Nat} {lv : List (Nat × Value)} {st : List Value} {a : Nat → Nat} {tx : List kTxt} {E : va_W} {σ : kS} {b : Nat} {Q : Int32 → kS → Prop} (F : kF z cc RX0 nL rm) (hb : isFen b) (hd : decode cc pc = .ok (.invokevirtual 108, 3)) (hf : kFits rm 1 61 0 0 3 c n st = true) (h : wX0_heldCells b σ Q) (k : ∀ (v : Int32) (σ' : kS), Q v σ' → kV z (xW (zg z) a tx E σ') c n (pc + 3) lv (.int v :: st)) : kV z (xW (zg z) a tx E σ) c n pc lv (.ref (a b) :: st) := by
  exact g_callV F (av := []) (ctX0_heldCells _ _ _ a tx E hb h) (ci := 0) (q0 := b) rfl (xFen_at hb) rfl wq548 wq550 wq20 wq110 wq551 plX0_heldCells hd hf (fun r ws' hq => by
    obtain ⟨v, σ', rfl, rfl, hq⟩ := hq
    exact k v σ' hq)
theorem plX0_meetRiver : kPlain yX0_meetRiver 1 = true := by decide +kernel
theorem rX0_X0_meetRiver {z : kZ} {cc : ByteArray} {nL : Nat} {rm : Room} {c n pc : Nat} {lv : List (Nat × Value)} {st : List Value} {a : Nat → Nat} {tx : List kTxt} {E : va_W} {σ : kS} {b : Nat} {l1 : Int32} {Q : kS → Prop} (F : kF z cc RX0 nL rm) (hb : isFen b) (hd : decode cc pc = .ok (.invokevirtual 112, 3)) (hf : kFits rm 2 102 0 0 3 c n st = true) (h : wX0_meetRiver b l1 σ Q) (k : ∀ σ' : kS, Q σ' → kV z (xW (zg z) a tx E σ') c n (pc + 3) lv st) : kV z (xW (zg z) a tx E σ) c n pc lv (.int l1 :: .ref (a b) :: st) := by
  exact g_callV F (av := [.int l1]) (ctX0_meetRiver _ _ _ a tx E hb h) (ci := 0) (q0 := b) rfl (xFen_at hb) rfl wq559 wq561 wq21 wq110 wq562 plX0_meetRiver hd hf (fun r ws' hq => by
    obtain ⟨σ', rfl, rfl, hq⟩ := hq
    exact k σ' hq)
set_option maxRecDepth 20000 in
theorem sX0_flow_110 {z : kZ} {a : Nat → Nat} {tx : List kTxt} {E : va_W} {b : Nat} {Q : kS → Prop} {ks0 : Int32} {σ : kS} (F : kF z cX0_flow RX0 5 { frames := 3, cells := 0, slots := 0, locals := 124 }) (R : kR z none 0 0 (kPv (xW (zg z) a tx E) Q)) (hb : isFen b) (h : wX0_flow_110 b Q ks0 σ) : kV z (xW (zg z) a tx E σ) 0 0 110 [] [.int ks0, .ref (a b)] := by
  unfold wX0_flow_110 at h
  refine rX0_X0_meetRiver F hb dX0_flow_110 rfl h (fun s14 h => ?_)
  exact g_vret F R rfl rfl dX0_flow_113 ⟨_, rfl, rfl, h⟩
set_option maxRecDepth 20000 in
theorem sX0_flow_8 {z : kZ} {a : Nat → Nat} {tx : List kTxt} {E : va_W} {b : Nat} {Q : kS → Prop} {l1 : Int32} {l2 : Int32} {σ : kS} (F : kF z cX0_flow RX0 5 { frames := 3, cells := 0, slots := 0, locals := 124 }) (R : kR z none 0 0 (kPv (xW (zg z) a tx E) Q)) (hb : isFen b) (h : wX0_flow_8 b Q l1 l2 σ) : kV z (xW (zg z) a tx E σ) 0 0 8 [(0, .ref (a b)), (1, .int l1), (2, .int l2)] [] := by
  unfold wX0_flow_8 at h
  refine h (fun σ l2 => kV z (xW (zg z) a tx E σ) 0 0 8 [(0, .ref (a b)), (1, .int l1), (2, .int l2)] []) (fun σ l2 h => ?_)
  refine g_iload_n F dX0_flow_8 2 rfl ?_
  refine g_if_le F dX0_flow_9 (tgt := 98) (by decide) (fun c3 => ?_) (fun c3 => ?_)
  · replace h := h.1 c3
    refine g_aload_n F dX0_flow_98 0 rfl ?_
    refine g_iload_n F dX0_flow_99 1 rfl ?_
    refine g_iconst (v := (1 : Int32)) F dX0_flow_100 (by decide) ?_
    refine g_iand F dX0_flow_101 ?_
    refine g_if_eq F dX0_flow_102 (tgt := 109) (by decide) (fun c4 => ?_) (fun c4 => ?_)
    · replace h := h.1 c4
      refine g_iconst (v := (0 : Int32)) F dX0_flow_109 (by decide) ?_
      exact g_sub [] rfl (sX0_flow_110 F R hb h)
    replace h := h.2 c4
    refine g_iconst (v := (1 : Int32)) F dX0_flow_105 (by decide) ?_
    refine g_goto F dX0_flow_106 (tgt := 110) (by decide) ?_
    exact g_sub [] rfl (sX0_flow_110 F R hb h)
  replace h := h.2 c3
  refine g_aload_n F dX0_flow_12 0 rfl ?_
  refine rgX0_X0_height hb F dX0_flow_13 ?_
  refine g_iload_n F dX0_flow_16 2 rfl ?_
  obtain ⟨hc, h⟩ := h
  refine g_iald (wf := xW (zg z) a tx E) F (xAF1 hb) hc dX0_flow_17 ?_
  refine g_aload_n F dX0_flow_18 0 rfl ?_
  refine rgX0_X0_water hb F dX0_flow_19 ?_
  refine g_iload_n F dX0_flow_22 2 rfl ?_
  obtain ⟨hc, h⟩ := h
  refine g_iald (wf := xW (zg z) a tx E) F (xAF3 hb) hc dX0_flow_23 ?_
  refine g_iadd F dX0_flow_24 ?_
  refine g_aload_n F dX0_flow_25 0 rfl ?_
  refine rgX0_X0_height hb F dX0_flow_26 ?_
  refine g_iload_n F dX0_flow_29 2 rfl ?_
  refine g_iconst (v := (1 : Int32)) F dX0_flow_30 (by decide) ?_
  refine g_isub F dX0_flow_31 ?_
  obtain ⟨hc, h⟩ := h
  refine g_iald (wf := xW (zg z) a tx E) F (xAF1 hb) hc dX0_flow_32 ?_
  refine g_isub F dX0_flow_33 ?_
  refine g_aload_n F dX0_flow_34 0 rfl ?_
  refine rgX0_X0_water hb F dX0_flow_35 ?_
  refine g_iload_n F dX0_flow_38 2 rfl ?_
  refine g_iconst (v := (1 : Int32)) F dX0_flow_39 (by decide) ?_
  refine g_isub F dX0_flow_40 ?_
  obtain ⟨hc, h⟩ := h
  refine g_iald (wf := xW (zg z) a tx E) F (xAF3 hb) hc dX0_flow_41 ?_
  refine g_isub F dX0_flow_42 ?_
  refine g_topi (fun x5 ex5 => ?_)
  replace h := h x5 ex5
  refine g_istore_n (lv' := [(3, .int x5), (0, .ref (a b)), (1, .int l1), (2, .int l2)]) F dX0_flow_43 rfl rfl ?_
  refine g_iload_n F dX0_flow_44 0 rfl ?_
  refine g_if_le F dX0_flow_45 (tgt := 92) (by decide) (fun c6 => ?_) (fun c6 => ?_)
  · replace h := h.1 c6
    obtain ⟨x7, ex7⟩ : ∃ q : Int32, q = l2 + (-1 : Int32) := ⟨_, rfl⟩
    replace h := h x7 ex7
    refine g_iinc (lv' := [(2, .int x7), (3, .int x5), (0, .ref (a b)), (1, .int l1)]) (d := (-1 : Int32)) F dX0_flow_92 rfl 3 rfl (by decide) ex7.symm rfl ?_
    refine g_goto F dX0_flow_95 (tgt := 8) (by decide) ?_
    exact (g_sub [2, 3, 0] rfl h)
  replace h := h.2 c6
  refine g_iload_n F dX0_flow_48 2 rfl ?_
  refine g_iload_n F dX0_flow_49 3 rfl ?_
  refine g_iconst (v := (1 : Int32)) F dX0_flow_50 (by decide) ?_
  refine g_isub F dX0_flow_51 ?_
  refine g_ishr F dX0_flow_52 ?_
  refine g_iconst (v := (1 : Int32)) F dX0_flow_53 (by decide) ?_
  refine g_iand F dX0_flow_54 ?_
  refine g_if_ne F dX0_flow_55 (tgt := 92) (by decide) (fun c8 => ?_) (fun c8 => ?_)
  · replace h := h.1 c8
    obtain ⟨x9, ex9⟩ : ∃ q : Int32, q = l2 + (-1 : Int32) := ⟨_, rfl⟩
    replace h := h x9 ex9
    refine g_iinc (lv' := [(2, .int x9), (3, .int x5), (0, .ref (a b)), (1, .int l1)]) (d := (-1 : Int32)) F dX0_flow_92 rfl 3 rfl (by decide) ex9.symm rfl ?_
    refine g_goto F dX0_flow_95 (tgt := 8) (by decide) ?_
    exact (g_sub [2, 3, 0] rfl h)
  replace h := h.2 c8
  refine g_iload_n F dX0_flow_58 0 rfl ?_
  refine g_iconst (v := (2 : Int32)) F dX0_flow_59 (by decide) ?_
  refine g_idiv F dX0_flow_60 (by decide) ?_
  refine g_aload_n F dX0_flow_61 1 rfl ?_
  refine rgX0_X0_water hb F dX0_flow_62 ?_
  refine g_iload_n F dX0_flow_65 3 rfl ?_
  obtain ⟨hc, h⟩ := h
  refine g_iald (wf := xW (zg z) a tx E) F (xAF3 hb) hc dX0_flow_66 ?_
  refine g_min F wq331 wq332 wq115 wq333 dX0_flow_67 rfl ?_
  refine g_topi (fun x10 ex10 => ?_)
  replace h := h x10 ex10
  refine g_istore (lv' := [(4, .int x10), (3, .int x5), (0, .ref (a b)), (1, .int l1), (2, .int l2)]) F dX0_flow_70 rfl rfl ?_
  refine g_aload_n F dX0_flow_72 2 rfl ?_
  refine rgX0_X0_water hb F dX0_flow_73 ?_
  refine g_iload_n F dX0_flow_76 4 rfl ?_
  refine g_dup2_11 F dX0_flow_77 rfl rfl ?_
  obtain ⟨hc, h⟩ := h
  refine g_iald (wf := xW (zg z) a tx E) F (xAF3 hb) hc dX0_flow_78 ?_
  refine g_iload F dX0_flow_79 0 rfl ?_
  refine g_isub F dX0_flow_81 ?_
  obtain ⟨hc, h⟩ := h
  refine g_iast (wf := xW (zg z) a tx E) F (xAF3 hb) hc dX0_flow_82 ?_
  refine g_name (wf := xW (zg z) a tx E) (fun s11 es11 => ?_)
  replace h := h s11 es11
  refine g_aload_n F dX0_flow_83 2 rfl ?_
  refine g_iload_n F dX0_flow_84 4 rfl ?_
  refine g_iconst (v := (1 : Int32)) F dX0_flow_85 (by decide) ?_
  refine g_isub F dX0_flow_86 ?_
  refine g_iload F dX0_flow_87 0 rfl ?_
  refine rX0_X0_pour F hb dX0_flow_89 rfl h (fun s12 h => ?_)
  obtain ⟨x13, ex13⟩ : ∃ q : Int32, q = l2 + (-1 : Int32) := ⟨_, rfl⟩
  replace h := h x13 ex13
  refine g_iinc (lv' := [(2, .int x13), (4, .int x10), (3, .int x5), (0, .ref (a b)), (1, .int l1)]) (d := (-1 : Int32)) F dX0_flow_92 rfl 4 rfl (by decide) ex13.symm rfl ?_
  refine g_goto F dX0_flow_95 (tgt := 8) (by decide) ?_
  exact (g_sub [3, 4, 0] rfl h)
set_option maxRecDepth 20000 in
theorem ctX0_flow (l : Launch) (g : kG) (A : Nat → Prop) (a : Nat → Nat) (tx : List kTxt) (E : va_W) {b : Nat} (hb : isFen b) {σ : kS} {Q : kS → Prop} (h : wX0_flow b σ Q) : kCt l yX0_flow cX0_flow 5 none 3 124 0 0 g A [.ref (a b)] (xW g a tx E σ) (kPv (xW g a tx E) Q) := by
  refine kCt.of (lv0 := [(0, .ref (a b))]) (by decide +kernel) (Nat.le_of_ble_eq_true rfl) rfl (fun z hl hg hA F R => ?_)
  subst hl hg hA
  have F : kF z cX0_flow RX0 5 { frames := 3, cells := 0, slots := 0, locals := 124 } := F
  unfold wX0_flow at h
  refine g_aload_n F dX0_flow_0 0 rfl ?_
  refine rX0_X0_heldCells F hb dX0_flow_1 rfl h (fun r2 s1 h => ?_)
  refine g_istore_n (lv' := [(1, .int r2), (0, .ref (a b))]) F dX0_flow_4 rfl rfl ?_
  refine g_bipush (v := (11 : Int32)) F dX0_flow_5 (by decide) ?_
  refine g_istore_n (lv' := [(2, .int (11 : Int32)), (1, .int r2), (0, .ref (a b))]) F dX0_flow_7 rfl rfl ?_
  exact g_sub [2, 1, 0] rfl (sX0_flow_8 F R hb h)
set_option maxRecDepth 20000 in
theorem ctX0_drawFrom (l : Launch) (g : kG) (A : Nat → Prop) (a : Nat → Nat) (tx : List kTxt) (E : va_W) {b : Nat} (hb : isFen b) {l1 : Int32} {l2 : Int32} {σ : kS} {Q : kS → Prop} (h : wX0_drawFrom b l1 l2 σ Q) : kCt l yX0_drawFrom cX0_drawFrom 3 none 2 105 0 0 g A [.ref (a b), .int l1, .int l2] (xW g a tx E σ) (kPv (xW g a tx E) Q) := by
  refine kCt.of (lv0 := [(0, .ref (a b)), (1, .int l1), (2, .int l2)]) (by decide +kernel) (Nat.le_of_ble_eq_true rfl) rfl (fun z hl hg hA F R => ?_)
  subst hl hg hA
  have F : kF z cX0_drawFrom RX0 3 { frames := 2, cells := 0, slots := 0, locals := 105 } := F
  unfold wX0_drawFrom at h
  refine g_iload_n F dX0_drawFrom_0 2 rfl ?_
  refine rX0_X4_isCell F dX0_drawFrom_1 rfl h (fun r1 h => ?_)
  refine g_if_eq F dX0_drawFrom_4 (tgt := 22) (by decide) (fun c2 => ?_) (fun c2 => ?_)
  · replace h := h.1 c2
    exact g_vret F R rfl rfl dX0_drawFrom_22 ⟨_, rfl, rfl, h⟩
  replace h := h.2 c2
  refine g_aload_n F dX0_drawFrom_7 0 rfl ?_
  refine rgX0_X0_water hb F dX0_drawFrom_8 ?_
  refine g_iload_n F dX0_drawFrom_11 2 rfl ?_
  refine g_dup2_11 F dX0_drawFrom_12 rfl rfl ?_
  obtain ⟨hc, h⟩ := h
  refine g_iald (wf := xW (zg z) a tx E) F (xAF3 hb) hc dX0_drawFrom_13 ?_
  refine g_aload_n F dX0_drawFrom_14 0 rfl ?_
  refine g_iload_n F dX0_drawFrom_15 1 rfl ?_
  refine g_iload_n F dX0_drawFrom_16 2 rfl ?_
  refine rX0_X0_draws F hb dX0_drawFrom_17 rfl h (fun r4 s3 h => ?_)
  refine g_isub F dX0_drawFrom_20 ?_
  obtain ⟨hc, h⟩ := h
  refine g_iast (wf := xW (zg z) a tx E) F (xAF3 hb) hc dX0_drawFrom_21 ?_
  refine g_name (wf := xW (zg z) a tx E) (fun s5 es5 => ?_)
  replace h := h s5 es5
  exact g_vret F R rfl rfl dX0_drawFrom_22 ⟨_, rfl, rfl, h⟩
theorem plX0_drawFrom : kPlain yX0_drawFrom 2 = true := by decide +kernel
theorem rX0_X0_drawFrom {z : kZ} {cc : ByteArray} {nL : Nat} {rm : Room} {c n pc : Nat} {lv : List (Nat × Value)} {st : List Value} {a : Nat → Nat} {tx : List kTxt} {E : va_W} {σ : kS} {b : Nat} {l1 : Int32} {l2 : Int32} {Q : kS → Prop} (F : kF z cc RX0 nL rm) (hb : isFen b) (hd : decode cc pc = .ok (.invokevirtual 116, 3)) (hf : kFits rm 2 105 0 0 3 c n st = true) (h : wX0_drawFrom b l1 l2 σ Q) (k : ∀ σ' : kS, Q σ' → kV z (xW (zg z) a tx E σ') c n (pc + 3) lv st) : kV z (xW (zg z) a tx E σ) c n pc lv (.int l2 :: .int l1 :: .ref (a b) :: st) := by
  exact g_callV F (av := [.int l1, .int l2]) (ctX0_drawFrom _ _ _ a tx E hb h) (ci := 0) (q0 := b) rfl (xFen_at hb) rfl wq567 wq569 wq23 wq110 wq570 plX0_drawFrom hd hf (fun r ws' hq => by
    obtain ⟨σ', rfl, rfl, hq⟩ := hq
    exact k σ' hq)
theorem plX0_spreads : kPlain yX0_spreads 1 = true := by decide +kernel
theorem rX0_X0_spreads {z : kZ} {cc : ByteArray} {nL : Nat} {rm : Room} {c n pc : Nat} {lv : List (Nat × Value)} {st : List Value} {ws : va_W} {l0 : Int32} {Q : Int32 → Prop} (F : kF z cc RX0 nL rm) (hd : decode cc pc = .ok (.invokestatic 119, 3)) (hf : kFits rm 0 40 0 0 1 c n st = true) (h : wX0_spreads l0 Q) (k : ∀ v : Int32, Q v → kV z ws c n (pc + 3) lv (.int v :: st)) : kV z ws c n pc lv (.int l0 :: st) := g_callS F (av := [.int l0]) (ctX0_spreads _ _ _ ws h) wq571 wq572 wq110 wq573 plX0_spreads hd hf (fun r ws' hq => by
    obtain ⟨v, rfl, rfl, hq⟩ := hq
    exact k v hq)
theorem plX0_costs : kPlain yX0_costs 2 = true := by decide +kernel
theorem rX0_X0_costs {z : kZ} {cc : ByteArray} {nL : Nat} {rm : Room} {c n pc : Nat} {lv : List (Nat × Value)} {st : List Value} {a : Nat → Nat} {tx : List kTxt} {E : va_W} {σ : kS} {b : Nat} {T : kTxt} {l2 : Int32} {Q : Int32 → kS → Prop} (F : kF z cc RX0 nL rm) (hb : isFen b) (hT : xIn (zg z) E T) (hd : decode cc pc = .ok (.invokevirtual 122, 3)) (hf : kFits rm 2 108 0 0 4 c n st = true) (h : wX0_costs b T l2 σ Q) (k : ∀ (v : Int32) (σ' : kS), Q v σ' → kV z (xW (zg z) a tx E σ') c n (pc + 3) lv (.int v :: st)) : kV z (xW (zg z) a tx E σ) c n pc lv (.int l2 :: .ref T.1 :: .ref (a b) :: st) := by
  exact g_callV F (av := [.ref T.1, .int l2]) (ctX0_costs _ _ _ a tx E hb hT h) (ci := 0) (q0 := b) rfl (xFen_at hb) rfl wq574 wq339 wq340 wq110 wq341 plX0_costs hd hf (fun r ws' hq => by
    obtain ⟨v, σ', rfl, rfl, hq⟩ := hq
    exact k v σ' hq)
set_option maxRecDepth 20000 in
theorem sX0_drain_65 {z : kZ} {a : Nat → Nat} {tx : List kTxt} {E : va_W} {b : Nat} {T : kTxt} {Q : kS → Prop} {P2 : kS → Int32 → Prop} {l2 : Int32} {σ : kS} (F : kF z cX0_drain RX0 3 { frames := 3, cells := 0, slots := 0, locals := 131 }) (R : kR z none 0 0 (kPv (xW (zg z) a tx E) Q)) (hb : isFen b) (hT : xIn (zg z) E T) (hP2 : ∀ (σ : kS) (l2 : Int32), P2 σ l2 → kV z (xW (zg z) a tx E σ) 0 0 2 [(0, .ref (a b)), (1, .ref T.1), (2, .int l2)] []) (h : wX0_drain_65 b T Q P2 l2 σ) : kV z (xW (zg z) a tx E σ) 0 0 65 [(0, .ref (a b)), (1, .ref T.1), (2, .int l2)] [] := by
  unfold wX0_drain_65 at h
  refine g_aload_n F dX0_drain_65 0 rfl ?_
  refine g_dup F dX0_drain_66 rfl ?_
  refine rgX0_X0_paid hb F dX0_drain_67 ?_
  refine g_aload_n F dX0_drain_70 0 rfl ?_
  refine g_aload_n F dX0_drain_71 1 rfl ?_
  refine g_iload_n F dX0_drain_72 2 rfl ?_
  refine rX0_X0_costs F hb hT dX0_drain_73 rfl h (fun r12 s11 h => ?_)
  refine g_iadd F dX0_drain_76 ?_
  refine rpX0_X0_paid hb F dX0_drain_77 ?_
  refine g_name (wf := xW (zg z) a tx E) (fun s13 es13 => ?_)
  replace h := h s13 es13
  obtain ⟨x14, ex14⟩ : ∃ q : Int32, q = l2 + (1 : Int32) := ⟨_, rfl⟩
  replace h := h x14 ex14
  refine g_iinc (lv' := [(2, .int x14), (0, .ref (a b)), (1, .ref T.1)]) (d := (1 : Int32)) F dX0_drain_80 rfl 2 rfl (by decide) ex14.symm rfl ?_
  refine g_goto F dX0_drain_83 (tgt := 2) (by decide) ?_
  exact g_sub [1, 2, 0] rfl (hP2 _ _ h)
set_option maxRecDepth 20000 in
theorem sX0_drain_2 {z : kZ} {a : Nat → Nat} {tx : List kTxt} {E : va_W} {b : Nat} {T : kTxt} {Q : kS → Prop} {l2 : Int32} {σ : kS} (F : kF z cX0_drain RX0 3 { frames := 3, cells := 0, slots := 0, locals := 131 }) (R : kR z none 0 0 (kPv (xW (zg z) a tx E) Q)) (hb : isFen b) (hT : xIn (zg z) E T) (h : wX0_drain_2 b T Q l2 σ) : kV z (xW (zg z) a tx E σ) 0 0 2 [(0, .ref (a b)), (1, .ref T.1), (2, .int l2)] [] := by
  unfold wX0_drain_2 at h
  refine h (fun σ l2 => kV z (xW (zg z) a tx E σ) 0 0 2 [(0, .ref (a b)), (1, .ref T.1), (2, .int l2)] []) (fun σ l2 h => ?_)
  refine g_iload_n F dX0_drain_2 2 rfl ?_
  refine g_bipush (v := (6 : Int32)) F dX0_drain_3 (by decide) ?_
  refine g_icmp_ge F dX0_drain_5 (tgt := 86) (by decide) (fun c1 => ?_) (fun c1 => ?_)
  · replace h := h.1 c1
    exact g_vret F R rfl rfl dX0_drain_86 ⟨_, rfl, rfl, h⟩
  replace h := h.2 c1
  refine g_aload_n F dX0_drain_8 0 rfl ?_
  refine g_iload_n F dX0_drain_9 2 rfl ?_
  refine rX0_X0_goes F hb dX0_drain_10 rfl h (fun r3 s2 h => ?_)
  refine g_if_eq F dX0_drain_13 (tgt := 80) (by decide) (fun c4 => ?_) (fun c4 => ?_)
  · replace h := h.1 c4
    obtain ⟨x5, ex5⟩ : ∃ q : Int32, q = l2 + (1 : Int32) := ⟨_, rfl⟩
    replace h := h x5 ex5
    refine g_iinc (lv' := [(2, .int x5), (0, .ref (a b)), (1, .ref T.1)]) (d := (1 : Int32)) F dX0_drain_80 rfl 2 rfl (by decide) ex5.symm rfl ?_
    refine g_goto F dX0_drain_83 (tgt := 2) (by decide) ?_
    exact (g_sub [1, 2, 0] rfl h)
  replace h := h.2 c4
  refine g_aload_n F dX0_drain_16 0 rfl ?_
  refine g_iload_n F dX0_drain_17 2 rfl ?_
  refine g_aload_n F dX0_drain_18 0 rfl ?_
  refine rgX0_X0_place hb F dX0_drain_19 ?_
  refine g_iload_n F dX0_drain_22 2 rfl ?_
  obtain ⟨hc, h⟩ := h
  refine g_iald (wf := xW (zg z) a tx E) F (xAF6 hb) hc dX0_drain_23 ?_
  refine rX0_X0_drawFrom F hb dX0_drain_24 rfl h (fun s6 h => ?_)
  refine g_aload_n F dX0_drain_27 0 rfl ?_
  refine rgX0_X0_kind hb F dX0_drain_28 ?_
  refine g_iload_n F dX0_drain_31 2 rfl ?_
  obtain ⟨hc, h⟩ := h
  refine g_iald (wf := xW (zg z) a tx E) F (xAF4 hb) hc dX0_drain_32 ?_
  refine rX0_X0_spreads F dX0_drain_33 rfl h (fun r7 h => ?_)
  refine g_if_eq F dX0_drain_36 (tgt := 65) (by decide) (fun c8 => ?_) (fun c8 => ?_)
  · replace h := h.1 c8
    exact (sX0_drain_65 F R hb hT (fun _ _ h => h) h)
  replace h := h.2 c8
  refine g_aload_n F dX0_drain_39 0 rfl ?_
  refine g_iload_n F dX0_drain_40 2 rfl ?_
  refine g_aload_n F dX0_drain_41 0 rfl ?_
  refine rgX0_X0_place hb F dX0_drain_42 ?_
  refine g_iload_n F dX0_drain_45 2 rfl ?_
  obtain ⟨hc, h⟩ := h
  refine g_iald (wf := xW (zg z) a tx E) F (xAF6 hb) hc dX0_drain_46 ?_
  refine g_iconst (v := (1 : Int32)) F dX0_drain_47 (by decide) ?_
  refine g_isub F dX0_drain_48 ?_
  refine rX0_X0_drawFrom F hb dX0_drain_49 rfl h (fun s9 h => ?_)
  refine g_aload_n F dX0_drain_52 0 rfl ?_
  refine g_iload_n F dX0_drain_53 2 rfl ?_
  refine g_aload_n F dX0_drain_54 0 rfl ?_
  refine rgX0_X0_place hb F dX0_drain_55 ?_
  refine g_iload_n F dX0_drain_58 2 rfl ?_
  obtain ⟨hc, h⟩ := h
  refine g_iald (wf := xW (zg z) a tx E) F (xAF6 hb) hc dX0_drain_59 ?_
  refine g_iconst (v := (1 : Int32)) F dX0_drain_60 (by decide) ?_
  refine g_iadd F dX0_drain_61 ?_
  refine rX0_X0_drawFrom F hb dX0_drain_62 rfl h (fun s10 h => ?_)
  exact (sX0_drain_65 F R hb hT (fun _ _ h => h) h)
set_option maxRecDepth 20000 in
theorem ctX0_drain (l : Launch) (g : kG) (A : Nat → Prop) (a : Nat → Nat) (tx : List kTxt) (E : va_W) {b : Nat} {T : kTxt} (hb : isFen b) (hT : xIn g E T) {σ : kS} {Q : kS → Prop} (h : wX0_drain b T σ Q) : kCt l yX0_drain cX0_drain 3 none 3 131 0 0 g A [.ref (a b), .ref T.1] (xW g a tx E σ) (kPv (xW g a tx E) Q) := by
  refine kCt.of (lv0 := [(0, .ref (a b)), (1, .ref T.1)]) (by decide +kernel) (Nat.le_of_ble_eq_true rfl) rfl (fun z hl hg hA F R => ?_)
  subst hl hg hA
  have F : kF z cX0_drain RX0 3 { frames := 3, cells := 0, slots := 0, locals := 131 } := F
  unfold wX0_drain at h
  refine g_iconst (v := (0 : Int32)) F dX0_drain_0 (by decide) ?_
  refine g_istore_n (lv' := [(2, .int (0 : Int32)), (0, .ref (a b)), (1, .ref T.1)]) F dX0_drain_1 rfl rfl ?_
  exact g_sub [1, 2, 0] rfl (sX0_drain_2 F R hb hT h)
set_option maxRecDepth 20000 in
theorem sX0_shrink_2 {z : kZ} {a : Nat → Nat} {tx : List kTxt} {E : va_W} {b : Nat} {T : kTxt} {Q : kS → Prop} {l2 : Int32} {σ : kS} (F : kF z cX0_shrink RX0 4 { frames := 2, cells := 0, slots := 0, locals := 108 }) (R : kR z none 0 0 (kPv (xW (zg z) a tx E) Q)) (hb : isFen b) (hT : xIn (zg z) E T) (h : wX0_shrink_2 b T Q l2 σ) : kV z (xW (zg z) a tx E σ) 0 0 2 [(0, .ref (a b)), (1, .ref T.1), (2, .int l2)] [] := by
  unfold wX0_shrink_2 at h
  refine h (fun σ l2 => kV z (xW (zg z) a tx E σ) 0 0 2 [(0, .ref (a b)), (1, .ref T.1), (2, .int l2)] []) (fun σ l2 h => ?_)
  refine g_iload_n F dX0_shrink_2 2 rfl ?_
  refine g_bipush (v := (12 : Int32)) F dX0_shrink_3 (by decide) ?_
  refine g_icmp_ge F dX0_shrink_5 (tgt := 70) (by decide) (fun c1 => ?_) (fun c1 => ?_)
  · replace h := h.1 c1
    exact g_vret F R rfl rfl dX0_shrink_70 ⟨_, rfl, rfl, h⟩
  replace h := h.2 c1
  refine g_aload_n F dX0_shrink_8 0 rfl ?_
  refine rgX0_X0_water hb F dX0_shrink_9 ?_
  refine g_iload_n F dX0_shrink_12 2 rfl ?_
  obtain ⟨hc, h⟩ := h
  refine g_iald (wf := xW (zg z) a tx E) F (xAF3 hb) hc dX0_shrink_13 ?_
  refine g_if_ne F dX0_shrink_14 (tgt := 64) (by decide) (fun c2 => ?_) (fun c2 => ?_)
  · replace h := h.1 c2
    obtain ⟨x3, ex3⟩ : ∃ q : Int32, q = l2 + (1 : Int32) := ⟨_, rfl⟩
    replace h := h x3 ex3
    refine g_iinc (lv' := [(2, .int x3), (0, .ref (a b)), (1, .ref T.1)]) (d := (1 : Int32)) F dX0_shrink_64 rfl 2 rfl (by decide) ex3.symm rfl ?_
    refine g_goto F dX0_shrink_67 (tgt := 2) (by decide) ?_
    exact (g_sub [1, 2, 0] rfl h)
  replace h := h.2 c2
  refine g_aload_n F dX0_shrink_17 0 rfl ?_
  refine g_aload_n F dX0_shrink_18 1 rfl ?_
  refine g_iconst (v := (1 : Int32)) F dX0_shrink_19 (by decide) ?_
  refine g_iload_n F dX0_shrink_20 2 rfl ?_
  refine g_iconst (v := (-1 : Int32)) F dX0_shrink_21 (by decide) ?_
  refine rX0_X0_says F hb hT dX0_shrink_22 rfl h (fun r5 s4 h => ?_)
  refine g_aload_n F dX0_shrink_25 0 rfl ?_
  refine rgX0_X0_peat hb F dX0_shrink_26 ?_
  refine g_iload_n F dX0_shrink_29 2 rfl ?_
  obtain ⟨hc, h⟩ := h
  refine g_iald (wf := xW (zg z) a tx E) F (xAF2 hb) hc dX0_shrink_30 ?_
  refine g_aload_n F dX0_shrink_31 0 rfl ?_
  refine rgX0_X0_height hb F dX0_shrink_32 ?_
  refine g_iload_n F dX0_shrink_35 2 rfl ?_
  obtain ⟨hc, h⟩ := h
  refine g_iald (wf := xW (zg z) a tx E) F (xAF1 hb) hc dX0_shrink_36 ?_
  refine g_min F wq331 wq332 wq115 wq333 dX0_shrink_37 rfl ?_
  refine g_min F wq331 wq332 wq115 wq333 dX0_shrink_40 rfl ?_
  refine g_topi (fun x6 ex6 => ?_)
  replace h := h x6 ex6
  refine g_istore_n (lv' := [(3, .int x6), (0, .ref (a b)), (1, .ref T.1), (2, .int l2)]) F dX0_shrink_43 rfl rfl ?_
  refine g_aload_n F dX0_shrink_44 1 rfl ?_
  refine rgX0_X0_peat hb F dX0_shrink_45 ?_
  refine g_iload_n F dX0_shrink_48 3 rfl ?_
  refine g_dup2_11 F dX0_shrink_49 rfl rfl ?_
  obtain ⟨hc, h⟩ := h
  refine g_iald (wf := xW (zg z) a tx E) F (xAF2 hb) hc dX0_shrink_50 ?_
  refine g_iload_n F dX0_shrink_51 0 rfl ?_
  refine g_isub F dX0_shrink_52 ?_
  obtain ⟨hc, h⟩ := h
  refine g_iast (wf := xW (zg z) a tx E) F (xAF2 hb) hc dX0_shrink_53 ?_
  refine g_name (wf := xW (zg z) a tx E) (fun s7 es7 => ?_)
  replace h := h s7 es7
  refine g_aload_n F dX0_shrink_54 1 rfl ?_
  refine rgX0_X0_height hb F dX0_shrink_55 ?_
  refine g_iload_n F dX0_shrink_58 3 rfl ?_
  refine g_dup2_11 F dX0_shrink_59 rfl rfl ?_
  obtain ⟨hc, h⟩ := h
  refine g_iald (wf := xW (zg z) a tx E) F (xAF1 hb) hc dX0_shrink_60 ?_
  refine g_iload_n F dX0_shrink_61 0 rfl ?_
  refine g_isub F dX0_shrink_62 ?_
  obtain ⟨hc, h⟩ := h
  refine g_iast (wf := xW (zg z) a tx E) F (xAF1 hb) hc dX0_shrink_63 ?_
  refine g_name (wf := xW (zg z) a tx E) (fun s8 es8 => ?_)
  replace h := h s8 es8
  obtain ⟨x9, ex9⟩ : ∃ q : Int32, q = l2 + (1 : Int32) := ⟨_, rfl⟩
  replace h := h x9 ex9
  refine g_iinc (lv' := [(2, .int x9), (3, .int x6), (0, .ref (a b)), (1, .ref T.1)]) (d := (1 : Int32)) F dX0_shrink_64 rfl 3 rfl (by decide) ex9.symm rfl ?_
  refine g_goto F dX0_shrink_67 (tgt := 2) (by decide) ?_
  exact (g_sub [2, 3, 0] rfl h)
set_option maxRecDepth 20000 in
theorem ctX0_shrink (l : Launch) (g : kG) (A : Nat → Prop) (a : Nat → Nat) (tx : List kTxt) (E : va_W) {b : Nat} {T : kTxt} (hb : isFen b) (hT : xIn g E T) {σ : kS} {Q : kS → Prop} (h : wX0_shrink b T σ Q) : kCt l yX0_shrink cX0_shrink 4 none 2 108 0 0 g A [.ref (a b), .ref T.1] (xW g a tx E σ) (kPv (xW g a tx E) Q) := by
  refine kCt.of (lv0 := [(0, .ref (a b)), (1, .ref T.1)]) (by decide +kernel) (Nat.le_of_ble_eq_true rfl) rfl (fun z hl hg hA F R => ?_)
  subst hl hg hA
  have F : kF z cX0_shrink RX0 4 { frames := 2, cells := 0, slots := 0, locals := 108 } := F
  unfold wX0_shrink at h
  refine g_iconst (v := (0 : Int32)) F dX0_shrink_0 (by decide) ?_
  refine g_istore_n (lv' := [(2, .int (0 : Int32)), (0, .ref (a b)), (1, .ref T.1)]) F dX0_shrink_1 rfl rfl ?_
  exact g_sub [1, 2, 0] rfl (sX0_shrink_2 F R hb hT h)
theorem plX0_rain : kPlain yX0_rain 1 = true := by decide +kernel
theorem rX0_X0_rain {z : kZ} {cc : ByteArray} {nL : Nat} {rm : Room} {c n pc : Nat} {lv : List (Nat × Value)} {st : List Value} {a : Nat → Nat} {tx : List kTxt} {E : va_W} {σ : kS} {b : Nat} {T : kTxt} {Q : kS → Prop} (F : kF z cc RX0 nL rm) (hb : isFen b) (hT : xIn (zg z) E T) (hd : decode cc pc = .ok (.invokevirtual 88, 3)) (hf : kFits rm 2 108 0 0 3 c n st = true) (h : wX0_rain b T σ Q) (k : ∀ σ' : kS, Q σ' → kV z (xW (zg z) a tx E σ') c n (pc + 3) lv st) : kV z (xW (zg z) a tx E σ) c n pc lv (.ref T.1 :: .ref (a b) :: st) := by
  exact g_callV F (av := [.ref T.1]) (ctX0_rain _ _ _ a tx E hb hT h) (ci := 0) (q0 := b) rfl (xFen_at hb) rfl wq536 wq538 wq17 wq110 wq539 plX0_rain hd hf (fun r ws' hq => by
    obtain ⟨σ', rfl, rfl, hq⟩ := hq
    exact k σ' hq)
theorem plX0_flow : kPlain yX0_flow 0 = true := by decide +kernel
theorem rX0_X0_flow {z : kZ} {cc : ByteArray} {nL : Nat} {rm : Room} {c n pc : Nat} {lv : List (Nat × Value)} {st : List Value} {a : Nat → Nat} {tx : List kTxt} {E : va_W} {σ : kS} {b : Nat} {Q : kS → Prop} (F : kF z cc RX0 nL rm) (hb : isFen b) (hd : decode cc pc = .ok (.invokevirtual 92, 3)) (hf : kFits rm 3 124 0 0 5 c n st = true) (h : wX0_flow b σ Q) (k : ∀ σ' : kS, Q σ' → kV z (xW (zg z) a tx E σ') c n (pc + 3) lv st) : kV z (xW (zg z) a tx E σ) c n pc lv (.ref (a b) :: st) := by
  exact g_callV F (av := []) (ctX0_flow _ _ _ a tx E hb h) (ci := 0) (q0 := b) rfl (xFen_at hb) rfl wq544 wq546 wq19 wq110 wq547 plX0_flow hd hf (fun r ws' hq => by
    obtain ⟨σ', rfl, rfl, hq⟩ := hq
    exact k σ' hq)
theorem plX0_drain : kPlain yX0_drain 1 = true := by decide +kernel
theorem rX0_X0_drain {z : kZ} {cc : ByteArray} {nL : Nat} {rm : Room} {c n pc : Nat} {lv : List (Nat × Value)} {st : List Value} {a : Nat → Nat} {tx : List kTxt} {E : va_W} {σ : kS} {b : Nat} {T : kTxt} {Q : kS → Prop} (F : kF z cc RX0 nL rm) (hb : isFen b) (hT : xIn (zg z) E T) (hd : decode cc pc = .ok (.invokevirtual 95, 3)) (hf : kFits rm 3 131 0 0 3 c n st = true) (h : wX0_drain b T σ Q) (k : ∀ σ' : kS, Q σ' → kV z (xW (zg z) a tx E σ') c n (pc + 3) lv st) : kV z (xW (zg z) a tx E σ) c n pc lv (.ref T.1 :: .ref (a b) :: st) := by
  exact g_callV F (av := [.ref T.1]) (ctX0_drain _ _ _ a tx E hb hT h) (ci := 0) (q0 := b) rfl (xFen_at hb) rfl wq563 wq565 wq22 wq110 wq566 plX0_drain hd hf (fun r ws' hq => by
    obtain ⟨σ', rfl, rfl, hq⟩ := hq
    exact k σ' hq)
theorem plX0_shrink : kPlain yX0_shrink 1 = true := by decide +kernel
theorem rX0_X0_shrink {z : kZ} {cc : ByteArray} {nL : Nat} {rm : Room} {c n pc : Nat} {lv : List (Nat × Value)} {st : List Value} {a : Nat → Nat} {tx : List kTxt} {E : va_W} {σ : kS} {b : Nat} {T : kTxt} {Q : kS → Prop} (F : kF z cc RX0 nL rm) (hb : isFen b) (hT : xIn (zg z) E T) (hd : decode cc pc = .ok (.invokevirtual 98, 3)) (hf : kFits rm 2 108 0 0 4 c n st = true) (h : wX0_shrink b T σ Q) (k : ∀ σ' : kS, Q σ' → kV z (xW (zg z) a tx E σ') c n (pc + 3) lv st) : kV z (xW (zg z) a tx E σ) c n pc lv (.ref T.1 :: .ref (a b) :: st) := by
  exact g_callV F (av := [.ref T.1]) (ctX0_shrink _ _ _ a tx E hb hT h) (ci := 0) (q0 := b) rfl (xFen_at hb) rfl wq575 wq577 wq24 wq110 wq578 plX0_shrink hd hf (fun r ws' hq => by
    obtain ⟨σ', rfl, rfl, hq⟩ := hq
    exact k σ' hq)
set_option maxRecDepth 20000 in
theorem ctX0_passYear (l : Launch) (g : kG) (A : Nat → Prop) (a : Nat → Nat) (tx : List kTxt) (E : va_W) {b : Nat} {T : kTxt} (hb : isFen b) (hT : xIn g E T) {σ : kS} {Q : kS → Prop} (h : wX0_passYear b T σ Q) : kCt l yX0_passYear cX0_passYear 2 none 4 153 0 0 g A [.ref (a b), .ref T.1] (xW g a tx E σ) (kPv (xW g a tx E) Q) := by
  refine kCt.of (lv0 := [(0, .ref (a b)), (1, .ref T.1)]) (by decide +kernel) (Nat.le_of_ble_eq_true rfl) rfl (fun z hl hg hA F R => ?_)
  subst hl hg hA
  have F : kF z cX0_passYear RX0 2 { frames := 4, cells := 0, slots := 0, locals := 153 } := F
  unfold wX0_passYear at h
  refine g_aload_n F dX0_passYear_0 0 rfl ?_
  refine g_aload_n F dX0_passYear_1 1 rfl ?_
  refine rX0_X0_rain F hb hT dX0_passYear_2 rfl h (fun s1 h => ?_)
  refine g_aload_n F dX0_passYear_5 0 rfl ?_
  refine rX0_X0_flow F hb dX0_passYear_6 rfl h (fun s2 h => ?_)
  refine g_aload_n F dX0_passYear_9 0 rfl ?_
  refine g_aload_n F dX0_passYear_10 1 rfl ?_
  refine rX0_X0_drain F hb hT dX0_passYear_11 rfl h (fun s3 h => ?_)
  refine g_aload_n F dX0_passYear_14 0 rfl ?_
  refine g_aload_n F dX0_passYear_15 1 rfl ?_
  refine rX0_X0_shrink F hb hT dX0_passYear_16 rfl h (fun s4 h => ?_)
  refine g_aload_n F dX0_passYear_19 0 rfl ?_
  refine g_dup F dX0_passYear_20 rfl ?_
  refine rgX0_X0_year hb F dX0_passYear_21 ?_
  refine g_iconst (v := (1 : Int32)) F dX0_passYear_24 (by decide) ?_
  refine g_iadd F dX0_passYear_25 ?_
  refine rpX0_X0_year hb F dX0_passYear_26 ?_
  refine g_name (wf := xW (zg z) a tx E) (fun s5 es5 => ?_)
  replace h := h s5 es5
  exact g_vret F R rfl rfl dX0_passYear_29 ⟨_, rfl, rfl, h⟩
set_option maxRecDepth 20000 in
theorem sX0_pourOnAll_2 {z : kZ} {a : Nat → Nat} {tx : List kTxt} {E : va_W} {b : Nat} {Q : kS → Prop} {l1 : Int32} {l2 : Int32} {σ : kS} (F : kF z cX0_pourOnAll RX0 3 { frames := 2, cells := 0, slots := 0, locals := 102 }) (R : kR z none 0 0 (kPv (xW (zg z) a tx E) Q)) (hb : isFen b) (h : wX0_pourOnAll_2 b Q l1 l2 σ) : kV z (xW (zg z) a tx E σ) 0 0 2 [(0, .ref (a b)), (1, .int l1), (2, .int l2)] [] := by
  unfold wX0_pourOnAll_2 at h
  refine h (fun σ l2 => kV z (xW (zg z) a tx E σ) 0 0 2 [(0, .ref (a b)), (1, .int l1), (2, .int l2)] []) (fun σ l2 h => ?_)
  refine g_iload_n F dX0_pourOnAll_2 2 rfl ?_
  refine g_bipush (v := (12 : Int32)) F dX0_pourOnAll_3 (by decide) ?_
  refine g_icmp_ge F dX0_pourOnAll_5 (tgt := 20) (by decide) (fun c1 => ?_) (fun c1 => ?_)
  · replace h := h.1 c1
    exact g_vret F R rfl rfl dX0_pourOnAll_20 ⟨_, rfl, rfl, h⟩
  replace h := h.2 c1
  refine g_aload_n F dX0_pourOnAll_8 0 rfl ?_
  refine g_iload_n F dX0_pourOnAll_9 2 rfl ?_
  refine g_iload_n F dX0_pourOnAll_10 1 rfl ?_
  refine rX0_X0_pour F hb dX0_pourOnAll_11 rfl h (fun s2 h => ?_)
  obtain ⟨x3, ex3⟩ : ∃ q : Int32, q = l2 + (1 : Int32) := ⟨_, rfl⟩
  replace h := h x3 ex3
  refine g_iinc (lv' := [(2, .int x3), (0, .ref (a b)), (1, .int l1)]) (d := (1 : Int32)) F dX0_pourOnAll_14 rfl 2 rfl (by decide) ex3.symm rfl ?_
  refine g_goto F dX0_pourOnAll_17 (tgt := 2) (by decide) ?_
  exact (g_sub [1, 2, 0] rfl h)
set_option maxRecDepth 20000 in
theorem ctX0_pourOnAll (l : Launch) (g : kG) (A : Nat → Prop) (a : Nat → Nat) (tx : List kTxt) (E : va_W) {b : Nat} (hb : isFen b) {l1 : Int32} {σ : kS} {Q : kS → Prop} (h : wX0_pourOnAll b l1 σ Q) : kCt l yX0_pourOnAll cX0_pourOnAll 3 none 2 102 0 0 g A [.ref (a b), .int l1] (xW g a tx E σ) (kPv (xW g a tx E) Q) := by
  refine kCt.of (lv0 := [(0, .ref (a b)), (1, .int l1)]) (by decide +kernel) (Nat.le_of_ble_eq_true rfl) rfl (fun z hl hg hA F R => ?_)
  subst hl hg hA
  have F : kF z cX0_pourOnAll RX0 3 { frames := 2, cells := 0, slots := 0, locals := 102 } := F
  unfold wX0_pourOnAll at h
  refine g_iconst (v := (0 : Int32)) F dX0_pourOnAll_0 (by decide) ?_
  refine g_istore_n (lv' := [(2, .int (0 : Int32)), (0, .ref (a b)), (1, .int l1)]) F dX0_pourOnAll_1 rfl rfl ?_
  exact g_sub [1, 2, 0] rfl (sX0_pourOnAll_2 F R hb h)
set_option maxRecDepth 20000 in
theorem ctX1_put (l : Launch) (g : kG) (A : Nat → Prop) (a : Nat → Nat) (tx : List kTxt) (E : va_W) {l1 : Int32} {σ : kS} {Q : Int32 → kS → Prop} (h : wX1_put l1 σ Q) : kCt l yX1_put cX1_put 2 (some .boolean) 0 40 0 0 g A [.ref (a 30), .int l1] (xW g a tx E σ) (kPi (xW g a tx E) Q) := by
  refine kCt.of (lv0 := [(0, .ref (a 30)), (1, .int l1)]) (by decide +kernel) (Nat.le_of_ble_eq_true rfl) rfl (fun z hl hg hA F R => ?_)
  subst hl hg hA
  have F : kF z cX1_put RX1 2 { frames := 0, cells := 0, slots := 0, locals := 40 } := F
  unfold wX1_put at h
  refine g_aload_n F dX1_put_0 0 rfl ?_
  refine rgX1_X1_size F dX1_put_1 ?_
  refine g_sipush (v := (160 : Int32)) F dX1_put_4 (by decide) ?_
  refine g_icmp_lt F dX1_put_7 (tgt := 12) (by decide) (fun c1 => ?_) (fun c1 => ?_)
  · replace h := h.1 c1
    refine g_aload_n F dX1_put_12 0 rfl ?_
    refine rgX1_X1_tape F dX1_put_13 ?_
    refine g_aload_n F dX1_put_16 0 rfl ?_
    refine rgX1_X1_size F dX1_put_17 ?_
    refine g_iload_n F dX1_put_20 1 rfl ?_
    obtain ⟨hc, h⟩ := h
    refine g_iast (wf := xW (zg z) a tx E) F xA31 hc dX1_put_21 ?_
    refine g_name (wf := xW (zg z) a tx E) (fun s2 es2 => ?_)
    replace h := h s2 es2
    refine g_aload_n F dX1_put_22 0 rfl ?_
    refine g_dup F dX1_put_23 rfl ?_
    refine rgX1_X1_size F dX1_put_24 ?_
    refine g_iconst (v := (1 : Int32)) F dX1_put_27 (by decide) ?_
    refine g_iadd F dX1_put_28 ?_
    refine rpX1_X1_size F dX1_put_29 ?_
    refine g_name (wf := xW (zg z) a tx E) (fun s3 es3 => ?_)
    replace h := h s3 es3
    refine g_iconst (v := (1 : Int32)) F dX1_put_32 (by decide) ?_
    exact g_zret F R rfl rfl rfl dX1_put_33 ⟨_, _, rfl, rfl, h⟩
  replace h := h.2 c1
  refine g_iconst (v := (0 : Int32)) F dX1_put_10 (by decide) ?_
  exact g_zret F R rfl rfl rfl dX1_put_11 ⟨_, _, rfl, rfl, h⟩
set_option maxRecDepth 20000 in
theorem ctX1_size (l : Launch) (g : kG) (A : Nat → Prop) (a : Nat → Nat) (tx : List kTxt) (E : va_W) {σ : kS} {Q : Int32 → kS → Prop} (h : wX1_size σ Q) : kCt l yX1_size cX1_size 1 (some .int) 0 40 0 0 g A [.ref (a 30)] (xW g a tx E σ) (kPi (xW g a tx E) Q) := by
  refine kCt.of (lv0 := [(0, .ref (a 30))]) (by decide +kernel) (Nat.le_of_ble_eq_true rfl) rfl (fun z hl hg hA F R => ?_)
  subst hl hg hA
  have F : kF z cX1_size RX1 1 { frames := 0, cells := 0, slots := 0, locals := 40 } := F
  unfold wX1_size at h
  refine g_aload_n F dX1_size_0 0 rfl ?_
  refine rgX1_X1_size F dX1_size_1 ?_
  exact g_iret F R rfl rfl dX1_size_4 ⟨_, _, rfl, rfl, h⟩
set_option maxRecDepth 20000 in
theorem ctX1_fault (l : Launch) (g : kG) (A : Nat → Prop) (a : Nat → Nat) (tx : List kTxt) (E : va_W) {σ : kS} {Q : Int32 → kS → Prop} (h : wX1_fault σ Q) : kCt l yX1_fault cX1_fault 1 (some .int) 0 40 0 0 g A [.ref (a 30)] (xW g a tx E σ) (kPi (xW g a tx E) Q) := by
  refine kCt.of (lv0 := [(0, .ref (a 30))]) (by decide +kernel) (Nat.le_of_ble_eq_true rfl) rfl (fun z hl hg hA F R => ?_)
  subst hl hg hA
  have F : kF z cX1_fault RX1 1 { frames := 0, cells := 0, slots := 0, locals := 40 } := F
  unfold wX1_fault at h
  refine g_aload_n F dX1_fault_0 0 rfl ?_
  refine rgX1_X1_fault F dX1_fault_1 ?_
  exact g_iret F R rfl rfl dX1_fault_4 ⟨_, _, rfl, rfl, h⟩
set_option maxRecDepth 20000 in
theorem ctX1_isLetter (l : Launch) (g : kG) (A : Nat → Prop) (ws : va_W) {l0 : Int32} {Q : Int32 → Prop} (h : wX1_isLetter l0 Q) : kCt l yX1_isLetter cX1_isLetter 1 (some .boolean) 0 40 0 0 g A [.int l0] ws (kTi ws Q) := by
  refine kCt.of (lv0 := [(0, .int l0)]) (by decide +kernel) (Nat.le_of_ble_eq_true rfl) rfl (fun z hl hg hA F R => ?_)
  subst hl hg hA
  have F : kF z cX1_isLetter RX1 1 { frames := 0, cells := 0, slots := 0, locals := 40 } := F
  unfold wX1_isLetter at h
  refine g_iload_n F dX1_isLetter_0 0 rfl ?_
  refine g_bipush (v := (97 : Int32)) F dX1_isLetter_1 (by decide) ?_
  refine g_icmp_lt F dX1_isLetter_3 (tgt := 16) (by decide) (fun c1 => ?_) (fun c1 => ?_)
  · replace h := h.1 c1
    refine g_iconst (v := (0 : Int32)) F dX1_isLetter_16 (by decide) ?_
    exact g_zret F R rfl rfl rfl dX1_isLetter_17 ⟨_, rfl, rfl, h⟩
  replace h := h.2 c1
  refine g_iload_n F dX1_isLetter_6 0 rfl ?_
  refine g_bipush (v := (122 : Int32)) F dX1_isLetter_7 (by decide) ?_
  refine g_icmp_gt F dX1_isLetter_9 (tgt := 16) (by decide) (fun c2 => ?_) (fun c2 => ?_)
  · replace h := h.1 c2
    refine g_iconst (v := (0 : Int32)) F dX1_isLetter_16 (by decide) ?_
    exact g_zret F R rfl rfl rfl dX1_isLetter_17 ⟨_, rfl, rfl, h⟩
  replace h := h.2 c2
  refine g_iconst (v := (1 : Int32)) F dX1_isLetter_12 (by decide) ?_
  refine g_goto F dX1_isLetter_13 (tgt := 17) (by decide) ?_
  exact g_zret F R rfl rfl rfl dX1_isLetter_17 ⟨_, rfl, rfl, h⟩
set_option maxRecDepth 20000 in
theorem ctX1_wordOf (l : Launch) (g : kG) (A : Nat → Prop) (ws : va_W) {l0 : Int32} {Q : Nat → Prop} (h : wX1_wordOf l0 Q) : kCt l yX1_wordOf cX1_wordOf 1 (some (.object "java/lang/String")) 0 40 0 0 g A [.int l0] ws (kTs g ws Q) := by
  refine kCt.of (lv0 := [(0, .int l0)]) (by decide +kernel) (Nat.le_of_ble_eq_true rfl) rfl (fun z hl hg hA F R => ?_)
  subst hl hg hA
  have F : kF z cX1_wordOf RX1 1 { frames := 0, cells := 0, slots := 0, locals := 40 } := F
  unfold wX1_wordOf at h
  refine g_iload_n F dX1_wordOf_0 0 rfl ?_
  by_cases c1 : l0 = (0 : Int32)
  · replace h := h.1 c1
    refine g_tableIn F dX1_wordOf_1 (0 : Int32) c1 (off := 59) (tgt := 60) (by decide) (by decide) ?_
    refine g_str (i := 0) F (by decide) dX1_wordOf_60 ?_
    exact g_aret F R (Or.inl ⟨_, rfl⟩) (Or.inr ⟨_, rfl⟩) (Nat.le_refl 0) (Nat.le_refl 0) dX1_wordOf_62 ⟨_, (by decide), rfl, rfl, h⟩
  replace h := h.2
  by_cases c2 : l0 = (1 : Int32)
  · replace h := h.1 c2
    refine g_tableIn F dX1_wordOf_1 (1 : Int32) c2 (off := 62) (tgt := 63) (by decide) (by decide) ?_
    refine g_str (i := 1) F (by decide) dX1_wordOf_63 ?_
    exact g_aret F R (Or.inl ⟨_, rfl⟩) (Or.inr ⟨_, rfl⟩) (Nat.le_refl 0) (Nat.le_refl 0) dX1_wordOf_65 ⟨_, (by decide), rfl, rfl, h⟩
  replace h := h.2
  by_cases c3 : l0 = (2 : Int32)
  · replace h := h.1 c3
    refine g_tableIn F dX1_wordOf_1 (2 : Int32) c3 (off := 65) (tgt := 66) (by decide) (by decide) ?_
    refine g_str (i := 2) F (by decide) dX1_wordOf_66 ?_
    exact g_aret F R (Or.inl ⟨_, rfl⟩) (Or.inr ⟨_, rfl⟩) (Nat.le_refl 0) (Nat.le_refl 0) dX1_wordOf_68 ⟨_, (by decide), rfl, rfl, h⟩
  replace h := h.2
  by_cases c4 : l0 = (3 : Int32)
  · replace h := h.1 c4
    refine g_tableIn F dX1_wordOf_1 (3 : Int32) c4 (off := 68) (tgt := 69) (by decide) (by decide) ?_
    refine g_str (i := 3) F (by decide) dX1_wordOf_69 ?_
    exact g_aret F R (Or.inl ⟨_, rfl⟩) (Or.inr ⟨_, rfl⟩) (Nat.le_refl 0) (Nat.le_refl 0) dX1_wordOf_71 ⟨_, (by decide), rfl, rfl, h⟩
  replace h := h.2
  by_cases c5 : l0 = (4 : Int32)
  · replace h := h.1 c5
    refine g_tableIn F dX1_wordOf_1 (4 : Int32) c5 (off := 71) (tgt := 72) (by decide) (by decide) ?_
    refine g_str (i := 4) F (by decide) dX1_wordOf_72 ?_
    exact g_aret F R (Or.inl ⟨_, rfl⟩) (Or.inr ⟨_, rfl⟩) (Nat.le_refl 0) (Nat.le_refl 0) dX1_wordOf_74 ⟨_, (by decide), rfl, rfl, h⟩
  replace h := h.2
  by_cases c6 : l0 = (5 : Int32)
  · replace h := h.1 c6
    refine g_tableIn F dX1_wordOf_1 (5 : Int32) c6 (off := 74) (tgt := 75) (by decide) (by decide) ?_
    refine g_str (i := 5) F (by decide) dX1_wordOf_75 ?_
    exact g_aret F R (Or.inl ⟨_, rfl⟩) (Or.inr ⟨_, rfl⟩) (Nat.le_refl 0) (Nat.le_refl 0) dX1_wordOf_77 ⟨_, (by decide), rfl, rfl, h⟩
  replace h := h.2
  by_cases c7 : l0 = (6 : Int32)
  · replace h := h.1 c7
    refine g_tableIn F dX1_wordOf_1 (6 : Int32) c7 (off := 77) (tgt := 78) (by decide) (by decide) ?_
    refine g_str (i := 6) F (by decide) dX1_wordOf_78 ?_
    exact g_aret F R (Or.inl ⟨_, rfl⟩) (Or.inr ⟨_, rfl⟩) (Nat.le_refl 0) (Nat.le_refl 0) dX1_wordOf_80 ⟨_, (by decide), rfl, rfl, h⟩
  replace h := h.2
  by_cases c8 : l0 = (7 : Int32)
  · replace h := h.1 c8
    refine g_tableIn F dX1_wordOf_1 (7 : Int32) c8 (off := 80) (tgt := 81) (by decide) (by decide) ?_
    refine g_str (i := 7) F (by decide) dX1_wordOf_81 ?_
    exact g_aret F R (Or.inl ⟨_, rfl⟩) (Or.inr ⟨_, rfl⟩) (Nat.le_refl 0) (Nat.le_refl 0) dX1_wordOf_83 ⟨_, (by decide), rfl, rfl, h⟩
  replace h := h.2
  by_cases c9 : l0 = (8 : Int32)
  · replace h := h.1 c9
    refine g_tableIn F dX1_wordOf_1 (8 : Int32) c9 (off := 83) (tgt := 84) (by decide) (by decide) ?_
    refine g_str (i := 8) F (by decide) dX1_wordOf_84 ?_
    exact g_aret F R (Or.inl ⟨_, rfl⟩) (Or.inr ⟨_, rfl⟩) (Nat.le_refl 0) (Nat.le_refl 0) dX1_wordOf_86 ⟨_, (by decide), rfl, rfl, h⟩
  replace h := h.2
  by_cases c10 : l0 = (9 : Int32)
  · replace h := h.1 c10
    refine g_tableIn F dX1_wordOf_1 (9 : Int32) c10 (off := 86) (tgt := 87) (by decide) (by decide) ?_
    refine g_str (i := 9) F (by decide) dX1_wordOf_87 ?_
    exact g_aret F R (Or.inl ⟨_, rfl⟩) (Or.inr ⟨_, rfl⟩) (Nat.le_refl 0) (Nat.le_refl 0) dX1_wordOf_89 ⟨_, (by decide), rfl, rfl, h⟩
  replace h := h.2
  by_cases c11 : l0 = (10 : Int32)
  · replace h := h.1 c11
    refine g_tableIn F dX1_wordOf_1 (10 : Int32) c11 (off := 89) (tgt := 90) (by decide) (by decide) ?_
    refine g_str (i := 10) F (by decide) dX1_wordOf_90 ?_
    exact g_aret F R (Or.inl ⟨_, rfl⟩) (Or.inr ⟨_, rfl⟩) (Nat.le_refl 0) (Nat.le_refl 0) dX1_wordOf_92 ⟨_, (by decide), rfl, rfl, h⟩
  replace h := h.2
  replace h := h c1 c2 c3 c4 c5 c6 c7 c8 c9 c10 c11
  refine g_tableOut F dX1_wordOf_1 11 (by decide) (lt_s (lt_s (lt_s (lt_s (lt_s (lt_s (lt_s (lt_s (lt_s (lt_s (lt_s (lt_0) c1) c2) c3) c4) c5) c6) c7) c8) c9) c10) c11) (tgt := 93) (by decide) ?_
  refine g_str (i := 11) F (by decide) dX1_wordOf_93 ?_
  exact g_aret F R (Or.inl ⟨_, rfl⟩) (Or.inr ⟨_, rfl⟩) (Nat.le_refl 0) (Nat.le_refl 0) dX1_wordOf_95 ⟨_, (by decide), rfl, rfl, h⟩
theorem plX1_isLetter : kPlain yX1_isLetter 1 = true := by decide +kernel
theorem rX1_X1_isLetter {z : kZ} {cc : ByteArray} {nL : Nat} {rm : Room} {c n pc : Nat} {lv : List (Nat × Value)} {st : List Value} {ws : va_W} {l0 : Int32} {Q : Int32 → Prop} (F : kF z cc RX1 nL rm) (hd : decode cc pc = .ok (.invokestatic 50, 3)) (hf : kFits rm 0 40 0 0 1 c n st = true) (h : wX1_isLetter l0 Q) (k : ∀ v : Int32, Q v → kV z ws c n (pc + 3) lv (.int v :: st)) : kV z ws c n pc lv (.int l0 :: st) := g_callS F (av := [.int l0]) (ctX1_isLetter _ _ _ ws h) wq389 wq390 wq112 wq391 plX1_isLetter hd hf (fun r ws' hq => by
    obtain ⟨v, rfl, rfl, hq⟩ := hq
    exact k v hq)
theorem plX1_wordOf : kPlain yX1_wordOf 1 = true := by decide +kernel
theorem rX1_X1_wordOf {z : kZ} {cc : ByteArray} {nL : Nat} {rm : Room} {c n pc : Nat} {lv : List (Nat × Value)} {st : List Value} {ws : va_W} {l0 : Int32} {Q : Nat → Prop} (F : kF z cc RX1 nL rm) (hd : decode cc pc = .ok (.invokestatic 66, 3)) (hf : kFits rm 0 40 0 0 1 c n st = true) (h : wX1_wordOf l0 Q) (k : ∀ i : Nat, i < 12 → Q i → kV z ws c n (pc + 3) lv (.ref ((zg z).2 (10 + i)) :: st)) : kV z ws c n pc lv (.int l0 :: st) := g_callS F (av := [.int l0]) (ctX1_wordOf _ _ _ ws h) wq396 wq397 wq112 wq398 plX1_wordOf hd hf (fun r ws' hq => by
    obtain ⟨i, hi, rfl, rfl, hq⟩ := hq
    exact k i hi hq)
set_option maxRecDepth 20000 in
theorem sX1_nextWord_128 {z : kZ} {a : Nat → Nat} {tx : List kTxt} {E : va_W}  {Q : kS → Prop} {P46 : kS → Int32 → Prop} {l1 : Int32} {l3 : Int32} {σ : kS} (F : kF z cX1_nextWord RX1 5 { frames := 4, cells := 0, slots := 0, locals := 181 }) (R : kR z none 0 0 (kPv (xW (zg z) a tx E) Q)) (hP46 : ∀ (σ : kS) (l1 : Int32), P46 σ l1 → kV z (xW (zg z) a tx E σ) 0 0 46 [(0, .ref (a 30)), (1, .int l1)] []) (h : wX1_nextWord_128 Q P46 l1 l3 σ) : kV z (xW (zg z) a tx E σ) 0 0 128 [(0, .ref (a 30)), (1, .int l1), (3, .int l3)] [] := by
  unfold wX1_nextWord_128 at h
  refine g_iload_n F dX1_nextWord_128 2 rfl ?_
  refine g_if_eq F dX1_nextWord_129 (tgt := 141) (by decide) (fun c14 => ?_) (fun c14 => ?_)
  · replace h := h.1 c14
    obtain ⟨x15, ex15⟩ : ∃ q : Int32, q = l1 + (1 : Int32) := ⟨_, rfl⟩
    replace h := h x15 ex15
    refine g_iinc (lv' := [(1, .int x15), (0, .ref (a 30)), (3, .int l3)]) (d := (1 : Int32)) F dX1_nextWord_141 rfl 1 rfl (by decide) ex15.symm rfl ?_
    refine g_goto F dX1_nextWord_144 (tgt := 46) (by decide) ?_
    exact g_sub [1, 0] rfl (hP46 _ _ h)
  replace h := h.2 c14
  refine g_aload_n F dX1_nextWord_132 0 rfl ?_
  refine g_sipush (v := (256 : Int32)) F dX1_nextWord_133 (by decide) ?_
  refine g_iload_n F dX1_nextWord_136 1 rfl ?_
  refine g_iadd F dX1_nextWord_137 ?_
  refine rpX1_X1_token F dX1_nextWord_138 ?_
  refine g_name (wf := xW (zg z) a tx E) (fun s16 es16 => ?_)
  replace h := h s16 es16
  obtain ⟨x17, ex17⟩ : ∃ q : Int32, q = l1 + (1 : Int32) := ⟨_, rfl⟩
  replace h := h x17 ex17
  refine g_iinc (lv' := [(1, .int x17), (0, .ref (a 30)), (3, .int l3)]) (d := (1 : Int32)) F dX1_nextWord_141 rfl 1 rfl (by decide) ex17.symm rfl ?_
  refine g_goto F dX1_nextWord_144 (tgt := 46) (by decide) ?_
  exact g_sub [1, 0] rfl (hP46 _ _ h)
set_option maxRecDepth 20000 in
theorem sX1_nextWord_82 {z : kZ} {a : Nat → Nat} {tx : List kTxt} {E : va_W}  {Q : kS → Prop} {P46 : kS → Int32 → Prop} {l1 : Int32} {i2 : Nat} {l3 : Int32} {l4 : Int32} {σ : kS} (F : kF z cX1_nextWord RX1 5 { frames := 4, cells := 0, slots := 0, locals := 181 }) (R : kR z none 0 0 (kPv (xW (zg z) a tx E) Q)) (hP46 : ∀ (σ : kS) (l1 : Int32), P46 σ l1 → kV z (xW (zg z) a tx E σ) 0 0 46 [(0, .ref (a 30)), (1, .int l1)] []) (hi2 : i2 < 12) (h : wX1_nextWord_82 Q P46 l1 i2 l3 l4 σ) : kV z (xW (zg z) a tx E σ) 0 0 82 [(0, .ref (a 30)), (1, .int l1), (2, .ref ((zg z).2 (10 + i2))), (3, .int l3), (4, .int l4)] [] := by
  unfold wX1_nextWord_82 at h
  refine h (fun l3 l4 => kV z (xW (zg z) a tx E σ) 0 0 82 [(0, .ref (a 30)), (1, .int l1), (2, .ref ((zg z).2 (10 + i2))), (3, .int l3), (4, .int l4)] []) (fun l3 l4 h => ?_)
  refine g_iload F dX1_nextWord_82 4 rfl ?_
  refine g_aload_n F dX1_nextWord_84 2 rfl ?_
  refine rX1_length F hi2 dX1_nextWord_85 rfl ?_
  refine g_icmp_ge F dX1_nextWord_88 (tgt := 128) (by decide) (fun c9 => ?_) (fun c9 => ?_)
  · replace h := h.1 c9
    exact g_sub [0, 1, 3] rfl (sX1_nextWord_128 F R hP46 h)
  replace h := h.2 c9
  refine g_iload_n F dX1_nextWord_91 3 rfl ?_
  refine g_if_eq F dX1_nextWord_92 (tgt := 128) (by decide) (fun c10 => ?_) (fun c10 => ?_)
  · replace h := h.1 c10
    exact g_sub [0, 1, 3] rfl (sX1_nextWord_128 F R hP46 h)
  replace h := h.2 c10
  refine g_aload_n F dX1_nextWord_95 0 rfl ?_
  refine rgX1_X1_tape F dX1_nextWord_96 ?_
  refine g_aload_n F dX1_nextWord_99 0 rfl ?_
  refine rgX1_X1_place F dX1_nextWord_100 ?_
  refine g_iload F dX1_nextWord_103 4 rfl ?_
  refine g_iadd F dX1_nextWord_105 ?_
  obtain ⟨hc, h⟩ := h
  refine g_iald (wf := xW (zg z) a tx E) F xA31 hc dX1_nextWord_106 ?_
  refine g_aload_n F dX1_nextWord_107 2 rfl ?_
  refine g_iload F dX1_nextWord_108 4 rfl ?_
  obtain ⟨hc, h⟩ := h
  refine rX1_charAt F hi2 hc dX1_nextWord_110 rfl ?_
  refine g_icmp_ne F dX1_nextWord_113 (tgt := 120) (by decide) (fun c11 => ?_) (fun c11 => ?_)
  · replace h := h.1 c11
    refine g_iconst (v := (0 : Int32)) F dX1_nextWord_120 (by decide) ?_
    refine g_istore_n (lv' := [(3, .int (0 : Int32)), (0, .ref (a 30)), (1, .int l1), (2, .ref ((zg z).2 (10 + i2))), (4, .int l4)]) F dX1_nextWord_121 rfl rfl ?_
    obtain ⟨x12, ex12⟩ : ∃ q : Int32, q = l4 + (1 : Int32) := ⟨_, rfl⟩
    replace h := h x12 ex12
    refine g_iinc (lv' := [(4, .int x12), (3, .int (0 : Int32)), (0, .ref (a 30)), (1, .int l1), (2, .ref ((zg z).2 (10 + i2)))]) (d := (1 : Int32)) F dX1_nextWord_122 rfl 4 rfl (by decide) ex12.symm rfl ?_
    refine g_goto F dX1_nextWord_125 (tgt := 82) (by decide) ?_
    exact (g_sub [2, 3, 4, 1, 0] rfl h)
  replace h := h.2 c11
  refine g_iconst (v := (1 : Int32)) F dX1_nextWord_116 (by decide) ?_
  refine g_goto F dX1_nextWord_117 (tgt := 121) (by decide) ?_
  refine g_istore_n (lv' := [(3, .int (1 : Int32)), (0, .ref (a 30)), (1, .int l1), (2, .ref ((zg z).2 (10 + i2))), (4, .int l4)]) F dX1_nextWord_121 rfl rfl ?_
  obtain ⟨x13, ex13⟩ : ∃ q : Int32, q = l4 + (1 : Int32) := ⟨_, rfl⟩
  replace h := h x13 ex13
  refine g_iinc (lv' := [(4, .int x13), (3, .int (1 : Int32)), (0, .ref (a 30)), (1, .int l1), (2, .ref ((zg z).2 (10 + i2)))]) (d := (1 : Int32)) F dX1_nextWord_122 rfl 4 rfl (by decide) ex13.symm rfl ?_
  refine g_goto F dX1_nextWord_125 (tgt := 82) (by decide) ?_
  exact (g_sub [2, 3, 4, 1, 0] rfl h)
set_option maxRecDepth 20000 in
theorem sX1_nextWord_46 {z : kZ} {a : Nat → Nat} {tx : List kTxt} {E : va_W}  {Q : kS → Prop} {l1 : Int32} {σ : kS} (F : kF z cX1_nextWord RX1 5 { frames := 4, cells := 0, slots := 0, locals := 181 }) (R : kR z none 0 0 (kPv (xW (zg z) a tx E) Q)) (h : wX1_nextWord_46 Q l1 σ) : kV z (xW (zg z) a tx E σ) 0 0 46 [(0, .ref (a 30)), (1, .int l1)] [] := by
  unfold wX1_nextWord_46 at h
  refine h (fun σ l1 => kV z (xW (zg z) a tx E σ) 0 0 46 [(0, .ref (a 30)), (1, .int l1)] []) (fun σ l1 h => ?_)
  refine g_iload_n F dX1_nextWord_46 1 rfl ?_
  refine g_bipush (v := (12 : Int32)) F dX1_nextWord_47 (by decide) ?_
  refine g_icmp_ge F dX1_nextWord_49 (tgt := 147) (by decide) (fun c6 => ?_) (fun c6 => ?_)
  · replace h := h.1 c6
    exact g_vret F R rfl rfl dX1_nextWord_147 ⟨_, rfl, rfl, h⟩
  replace h := h.2 c6
  refine g_iload_n F dX1_nextWord_52 1 rfl ?_
  refine rX1_X1_wordOf F dX1_nextWord_53 rfl h (fun r7 hr7 h => ?_)
  refine g_astore_n (lv' := [(2, .ref ((zg z).2 (10 + r7))), (0, .ref (a 30)), (1, .int l1)]) F dX1_nextWord_56 rfl rfl ?_
  refine g_aload_n F dX1_nextWord_57 0 rfl ?_
  refine rX1_length F hr7 dX1_nextWord_58 rfl ?_
  refine g_aload_n F dX1_nextWord_61 1 rfl ?_
  refine rgX1_X1_at F dX1_nextWord_62 ?_
  refine g_aload_n F dX1_nextWord_65 1 rfl ?_
  refine rgX1_X1_place F dX1_nextWord_66 ?_
  refine g_isub F dX1_nextWord_69 ?_
  refine g_icmp_ne F dX1_nextWord_70 (tgt := 77) (by decide) (fun c8 => ?_) (fun c8 => ?_)
  · replace h := h.1 c8
    refine g_iconst (v := (0 : Int32)) F dX1_nextWord_77 (by decide) ?_
    refine g_istore_n (lv' := [(3, .int (0 : Int32)), (2, .ref ((zg z).2 (10 + r7))), (0, .ref (a 30)), (1, .int l1)]) F dX1_nextWord_78 rfl rfl ?_
    refine g_iconst (v := (0 : Int32)) F dX1_nextWord_79 (by decide) ?_
    refine g_istore (lv' := [(4, .int (0 : Int32)), (3, .int (0 : Int32)), (2, .ref ((zg z).2 (10 + r7))), (0, .ref (a 30)), (1, .int l1)]) F dX1_nextWord_80 rfl rfl ?_
    exact g_sub [3, 4, 2, 1, 0] rfl (sX1_nextWord_82 F R (fun _ _ h => h) hr7 h)
  replace h := h.2 c8
  refine g_iconst (v := (1 : Int32)) F dX1_nextWord_73 (by decide) ?_
  refine g_goto F dX1_nextWord_74 (tgt := 78) (by decide) ?_
  refine g_istore_n (lv' := [(3, .int (1 : Int32)), (2, .ref ((zg z).2 (10 + r7))), (0, .ref (a 30)), (1, .int l1)]) F dX1_nextWord_78 rfl rfl ?_
  refine g_iconst (v := (0 : Int32)) F dX1_nextWord_79 (by decide) ?_
  refine g_istore (lv' := [(4, .int (0 : Int32)), (3, .int (1 : Int32)), (2, .ref ((zg z).2 (10 + r7))), (0, .ref (a 30)), (1, .int l1)]) F dX1_nextWord_80 rfl rfl ?_
  exact g_sub [3, 4, 2, 1, 0] rfl (sX1_nextWord_82 F R (fun _ _ h => h) hr7 h)
set_option maxRecDepth 20000 in
theorem sX1_nextWord_39 {z : kZ} {a : Nat → Nat} {tx : List kTxt} {E : va_W}  {Q : kS → Prop} {σ : kS} (F : kF z cX1_nextWord RX1 5 { frames := 4, cells := 0, slots := 0, locals := 181 }) (R : kR z none 0 0 (kPv (xW (zg z) a tx E) Q)) (h : wX1_nextWord_39 Q σ) : kV z (xW (zg z) a tx E σ) 0 0 39 [(0, .ref (a 30))] [] := by
  unfold wX1_nextWord_39 at h
  refine g_aload_n F dX1_nextWord_39 0 rfl ?_
  refine g_iconst (v := (1 : Int32)) F dX1_nextWord_40 (by decide) ?_
  refine rpX1_X1_token F dX1_nextWord_41 ?_
  refine g_name (wf := xW (zg z) a tx E) (fun s5 es5 => ?_)
  replace h := h s5 es5
  refine g_iconst (v := (0 : Int32)) F dX1_nextWord_44 (by decide) ?_
  refine g_istore_n (lv' := [(1, .int (0 : Int32)), (0, .ref (a 30))]) F dX1_nextWord_45 rfl rfl ?_
  exact g_sub [1, 0] rfl (sX1_nextWord_46 F R h)
set_option maxRecDepth 20000 in
theorem sX1_nextWord_0 {z : kZ} {a : Nat → Nat} {tx : List kTxt} {E : va_W}  {Q : kS → Prop} {σ : kS} (F : kF z cX1_nextWord RX1 5 { frames := 4, cells := 0, slots := 0, locals := 181 }) (R : kR z none 0 0 (kPv (xW (zg z) a tx E) Q)) (h : wX1_nextWord_0 Q σ) : kV z (xW (zg z) a tx E σ) 0 0 0 [(0, .ref (a 30))] [] := by
  unfold wX1_nextWord_0 at h
  refine h (fun σ => kV z (xW (zg z) a tx E σ) 0 0 0 [(0, .ref (a 30))] []) (fun σ h => ?_)
  refine g_aload_n F dX1_nextWord_0 0 rfl ?_
  refine rgX1_X1_at F dX1_nextWord_1 ?_
  refine g_aload_n F dX1_nextWord_4 0 rfl ?_
  refine rgX1_X1_size F dX1_nextWord_5 ?_
  refine g_icmp_ge F dX1_nextWord_8 (tgt := 39) (by decide) (fun c1 => ?_) (fun c1 => ?_)
  · replace h := h.1 c1
    exact (sX1_nextWord_39 F R h)
  replace h := h.2 c1
  refine g_aload_n F dX1_nextWord_11 0 rfl ?_
  refine rgX1_X1_tape F dX1_nextWord_12 ?_
  refine g_aload_n F dX1_nextWord_15 0 rfl ?_
  refine rgX1_X1_at F dX1_nextWord_16 ?_
  obtain ⟨hc, h⟩ := h
  refine g_iald (wf := xW (zg z) a tx E) F xA31 hc dX1_nextWord_19 ?_
  refine rX1_X1_isLetter F dX1_nextWord_20 rfl h (fun r2 h => ?_)
  refine g_if_eq F dX1_nextWord_23 (tgt := 39) (by decide) (fun c3 => ?_) (fun c3 => ?_)
  · replace h := h.1 c3
    exact (sX1_nextWord_39 F R h)
  replace h := h.2 c3
  refine g_aload_n F dX1_nextWord_26 0 rfl ?_
  refine g_dup F dX1_nextWord_27 rfl ?_
  refine rgX1_X1_at F dX1_nextWord_28 ?_
  refine g_iconst (v := (1 : Int32)) F dX1_nextWord_31 (by decide) ?_
  refine g_iadd F dX1_nextWord_32 ?_
  refine rpX1_X1_at F dX1_nextWord_33 ?_
  refine g_name (wf := xW (zg z) a tx E) (fun s4 es4 => ?_)
  replace h := h s4 es4
  refine g_goto F dX1_nextWord_36 (tgt := 0) (by decide) ?_
  exact h
set_option maxRecDepth 20000 in
theorem ctX1_nextWord (l : Launch) (g : kG) (A : Nat → Prop) (a : Nat → Nat) (tx : List kTxt) (E : va_W) {σ : kS} {Q : kS → Prop} (h : wX1_nextWord σ Q) : kCt l yX1_nextWord cX1_nextWord 5 none 4 181 0 0 g A [.ref (a 30)] (xW g a tx E σ) (kPv (xW g a tx E) Q) := by
  refine kCt.of (lv0 := [(0, .ref (a 30))]) (by decide +kernel) (Nat.le_of_ble_eq_true rfl) rfl (fun z hl hg hA F R => ?_)
  subst hl hg hA
  have F : kF z cX1_nextWord RX1 5 { frames := 4, cells := 0, slots := 0, locals := 181 } := F
  unfold wX1_nextWord at h
  exact (sX1_nextWord_0 F R h)
set_option maxRecDepth 20000 in
theorem ctX1_isDigit (l : Launch) (g : kG) (A : Nat → Prop) (ws : va_W) {l0 : Int32} {Q : Int32 → Prop} (h : wX1_isDigit l0 Q) : kCt l yX1_isDigit cX1_isDigit 1 (some .boolean) 0 40 0 0 g A [.int l0] ws (kTi ws Q) := by
  refine kCt.of (lv0 := [(0, .int l0)]) (by decide +kernel) (Nat.le_of_ble_eq_true rfl) rfl (fun z hl hg hA F R => ?_)
  subst hl hg hA
  have F : kF z cX1_isDigit RX1 1 { frames := 0, cells := 0, slots := 0, locals := 40 } := F
  unfold wX1_isDigit at h
  refine g_iload_n F dX1_isDigit_0 0 rfl ?_
  refine g_bipush (v := (48 : Int32)) F dX1_isDigit_1 (by decide) ?_
  refine g_icmp_lt F dX1_isDigit_3 (tgt := 16) (by decide) (fun c1 => ?_) (fun c1 => ?_)
  · replace h := h.1 c1
    refine g_iconst (v := (0 : Int32)) F dX1_isDigit_16 (by decide) ?_
    exact g_zret F R rfl rfl rfl dX1_isDigit_17 ⟨_, rfl, rfl, h⟩
  replace h := h.2 c1
  refine g_iload_n F dX1_isDigit_6 0 rfl ?_
  refine g_bipush (v := (57 : Int32)) F dX1_isDigit_7 (by decide) ?_
  refine g_icmp_gt F dX1_isDigit_9 (tgt := 16) (by decide) (fun c2 => ?_) (fun c2 => ?_)
  · replace h := h.1 c2
    refine g_iconst (v := (0 : Int32)) F dX1_isDigit_16 (by decide) ?_
    exact g_zret F R rfl rfl rfl dX1_isDigit_17 ⟨_, rfl, rfl, h⟩
  replace h := h.2 c2
  refine g_iconst (v := (1 : Int32)) F dX1_isDigit_12 (by decide) ?_
  refine g_goto F dX1_isDigit_13 (tgt := 17) (by decide) ?_
  exact g_zret F R rfl rfl rfl dX1_isDigit_17 ⟨_, rfl, rfl, h⟩
theorem plX1_isDigit : kPlain yX1_isDigit 1 = true := by decide +kernel
theorem rX1_X1_isDigit {z : kZ} {cc : ByteArray} {nL : Nat} {rm : Room} {c n pc : Nat} {lv : List (Nat × Value)} {st : List Value} {ws : va_W} {l0 : Int32} {Q : Int32 → Prop} (F : kF z cc RX1 nL rm) (hd : decode cc pc = .ok (.invokestatic 57, 3)) (hf : kFits rm 0 40 0 0 1 c n st = true) (h : wX1_isDigit l0 Q) (k : ∀ v : Int32, Q v → kV z ws c n (pc + 3) lv (.int v :: st)) : kV z ws c n pc lv (.int l0 :: st) := g_callS F (av := [.int l0]) (ctX1_isDigit _ _ _ ws h) wq459 wq460 wq112 wq461 plX1_isDigit hd hf (fun r ws' hq => by
    obtain ⟨v, rfl, rfl, hq⟩ := hq
    exact k v hq)
set_option maxRecDepth 20000 in
theorem sX1_nextNumber_87 {z : kZ} {a : Nat → Nat} {tx : List kTxt} {E : va_W}  {Q : kS → Prop} {ks0 : Int32} {σ : kS} (F : kF z cX1_nextNumber RX1 1 { frames := 1, cells := 0, slots := 0, locals := 60 }) (R : kR z none 0 0 (kPv (xW (zg z) a tx E) Q)) (h : wX1_nextNumber_87 Q ks0 σ) : kV z (xW (zg z) a tx E σ) 0 0 87 [] [.int ks0, .ref (a 30)] := by
  unfold wX1_nextNumber_87 at h
  refine rpX1_X1_token F dX1_nextNumber_87 ?_
  refine g_name (wf := xW (zg z) a tx E) (fun s8 es8 => ?_)
  replace h := h s8 es8
  exact g_vret F R rfl rfl dX1_nextNumber_90 ⟨_, rfl, rfl, h⟩
set_option maxRecDepth 20000 in
theorem sX1_nextNumber_68 {z : kZ} {a : Nat → Nat} {tx : List kTxt} {E : va_W}  {Q : kS → Prop} {σ : kS} (F : kF z cX1_nextNumber RX1 1 { frames := 1, cells := 0, slots := 0, locals := 60 }) (R : kR z none 0 0 (kPv (xW (zg z) a tx E) Q)) (h : wX1_nextNumber_68 Q σ) : kV z (xW (zg z) a tx E σ) 0 0 68 [(0, .ref (a 30))] [] := by
  unfold wX1_nextNumber_68 at h
  refine g_aload_n F dX1_nextNumber_68 0 rfl ?_
  refine g_aload_n F dX1_nextNumber_69 0 rfl ?_
  refine rgX1_X1_at F dX1_nextNumber_70 ?_
  refine g_aload_n F dX1_nextNumber_73 0 rfl ?_
  refine rgX1_X1_place F dX1_nextNumber_74 ?_
  refine g_isub F dX1_nextNumber_77 ?_
  refine g_iconst (v := (4 : Int32)) F dX1_nextNumber_78 (by decide) ?_
  refine g_icmp_gt F dX1_nextNumber_79 (tgt := 86) (by decide) (fun c7 => ?_) (fun c7 => ?_)
  · replace h := h.1 c7
    refine g_iconst (v := (1 : Int32)) F dX1_nextNumber_86 (by decide) ?_
    exact g_sub [] rfl (sX1_nextNumber_87 F R h)
  replace h := h.2 c7
  refine g_iconst (v := (2 : Int32)) F dX1_nextNumber_82 (by decide) ?_
  refine g_goto F dX1_nextNumber_83 (tgt := 87) (by decide) ?_
  exact g_sub [] rfl (sX1_nextNumber_87 F R h)
set_option maxRecDepth 20000 in
theorem sX1_nextNumber_5 {z : kZ} {a : Nat → Nat} {tx : List kTxt} {E : va_W}  {Q : kS → Prop} {σ : kS} (F : kF z cX1_nextNumber RX1 1 { frames := 1, cells := 0, slots := 0, locals := 60 }) (R : kR z none 0 0 (kPv (xW (zg z) a tx E) Q)) (h : wX1_nextNumber_5 Q σ) : kV z (xW (zg z) a tx E σ) 0 0 5 [(0, .ref (a 30))] [] := by
  unfold wX1_nextNumber_5 at h
  refine h (fun σ => kV z (xW (zg z) a tx E σ) 0 0 5 [(0, .ref (a 30))] []) (fun σ h => ?_)
  refine g_aload_n F dX1_nextNumber_5 0 rfl ?_
  refine rgX1_X1_at F dX1_nextNumber_6 ?_
  refine g_aload_n F dX1_nextNumber_9 0 rfl ?_
  refine rgX1_X1_size F dX1_nextNumber_10 ?_
  refine g_icmp_ge F dX1_nextNumber_13 (tgt := 68) (by decide) (fun c2 => ?_) (fun c2 => ?_)
  · replace h := h.1 c2
    exact (sX1_nextNumber_68 F R h)
  replace h := h.2 c2
  refine g_aload_n F dX1_nextNumber_16 0 rfl ?_
  refine rgX1_X1_tape F dX1_nextNumber_17 ?_
  refine g_aload_n F dX1_nextNumber_20 0 rfl ?_
  refine rgX1_X1_at F dX1_nextNumber_21 ?_
  obtain ⟨hc, h⟩ := h
  refine g_iald (wf := xW (zg z) a tx E) F xA31 hc dX1_nextNumber_24 ?_
  refine rX1_X1_isDigit F dX1_nextNumber_25 rfl h (fun r3 h => ?_)
  refine g_if_eq F dX1_nextNumber_28 (tgt := 68) (by decide) (fun c4 => ?_) (fun c4 => ?_)
  · replace h := h.1 c4
    exact (sX1_nextNumber_68 F R h)
  replace h := h.2 c4
  refine g_aload_n F dX1_nextNumber_31 0 rfl ?_
  refine g_aload_n F dX1_nextNumber_32 0 rfl ?_
  refine rgX1_X1_amount F dX1_nextNumber_33 ?_
  refine g_bipush (v := (10 : Int32)) F dX1_nextNumber_36 (by decide) ?_
  refine g_imul F dX1_nextNumber_38 ?_
  refine g_aload_n F dX1_nextNumber_39 0 rfl ?_
  refine rgX1_X1_tape F dX1_nextNumber_40 ?_
  refine g_aload_n F dX1_nextNumber_43 0 rfl ?_
  refine rgX1_X1_at F dX1_nextNumber_44 ?_
  obtain ⟨hc, h⟩ := h
  refine g_iald (wf := xW (zg z) a tx E) F xA31 hc dX1_nextNumber_47 ?_
  refine g_iadd F dX1_nextNumber_48 ?_
  refine g_bipush (v := (48 : Int32)) F dX1_nextNumber_49 (by decide) ?_
  refine g_isub F dX1_nextNumber_51 ?_
  refine rpX1_X1_amount F dX1_nextNumber_52 ?_
  refine g_name (wf := xW (zg z) a tx E) (fun s5 es5 => ?_)
  replace h := h s5 es5
  refine g_aload_n F dX1_nextNumber_55 0 rfl ?_
  refine g_dup F dX1_nextNumber_56 rfl ?_
  refine rgX1_X1_at F dX1_nextNumber_57 ?_
  refine g_iconst (v := (1 : Int32)) F dX1_nextNumber_60 (by decide) ?_
  refine g_iadd F dX1_nextNumber_61 ?_
  refine rpX1_X1_at F dX1_nextNumber_62 ?_
  refine g_name (wf := xW (zg z) a tx E) (fun s6 es6 => ?_)
  replace h := h s6 es6
  refine g_goto F dX1_nextNumber_65 (tgt := 5) (by decide) ?_
  exact h
set_option maxRecDepth 20000 in
theorem ctX1_nextNumber (l : Launch) (g : kG) (A : Nat → Prop) (a : Nat → Nat) (tx : List kTxt) (E : va_W) {σ : kS} {Q : kS → Prop} (h : wX1_nextNumber σ Q) : kCt l yX1_nextNumber cX1_nextNumber 1 none 1 60 0 0 g A [.ref (a 30)] (xW g a tx E σ) (kPv (xW g a tx E) Q) := by
  refine kCt.of (lv0 := [(0, .ref (a 30))]) (by decide +kernel) (Nat.le_of_ble_eq_true rfl) rfl (fun z hl hg hA F R => ?_)
  subst hl hg hA
  have F : kF z cX1_nextNumber RX1 1 { frames := 1, cells := 0, slots := 0, locals := 60 } := F
  unfold wX1_nextNumber at h
  refine g_aload_n F dX1_nextNumber_0 0 rfl ?_
  refine g_iconst (v := (0 : Int32)) F dX1_nextNumber_1 (by decide) ?_
  refine rpX1_X1_amount F dX1_nextNumber_2 ?_
  refine g_name (wf := xW (zg z) a tx E) (fun s1 es1 => ?_)
  replace h := h s1 es1
  exact (sX1_nextNumber_5 F R h)
set_option maxRecDepth 20000 in
theorem ctX1_isSign (l : Launch) (g : kG) (A : Nat → Prop) (ws : va_W) {l0 : Int32} {Q : Int32 → Prop} (h : wX1_isSign l0 Q) : kCt l yX1_isSign cX1_isSign 1 (some .boolean) 0 40 0 0 g A [.int l0] ws (kTi ws Q) := by
  refine kCt.of (lv0 := [(0, .int l0)]) (by decide +kernel) (Nat.le_of_ble_eq_true rfl) rfl (fun z hl hg hA F R => ?_)
  subst hl hg hA
  have F : kF z cX1_isSign RX1 1 { frames := 0, cells := 0, slots := 0, locals := 40 } := F
  unfold wX1_isSign at h
  refine g_iload_n F dX1_isSign_0 0 rfl ?_
  refine g_bipush (v := (40 : Int32)) F dX1_isSign_1 (by decide) ?_
  refine g_icmp_eq F dX1_isSign_3 (tgt := 48) (by decide) (fun c1 => ?_) (fun c1 => ?_)
  · replace h := h.1 c1
    refine g_iconst (v := (1 : Int32)) F dX1_isSign_48 (by decide) ?_
    refine g_goto F dX1_isSign_49 (tgt := 53) (by decide) ?_
    exact g_zret F R rfl rfl rfl dX1_isSign_53 ⟨_, rfl, rfl, h⟩
  replace h := h.2 c1
  refine g_iload_n F dX1_isSign_6 0 rfl ?_
  refine g_bipush (v := (41 : Int32)) F dX1_isSign_7 (by decide) ?_
  refine g_icmp_eq F dX1_isSign_9 (tgt := 48) (by decide) (fun c2 => ?_) (fun c2 => ?_)
  · replace h := h.1 c2
    refine g_iconst (v := (1 : Int32)) F dX1_isSign_48 (by decide) ?_
    refine g_goto F dX1_isSign_49 (tgt := 53) (by decide) ?_
    exact g_zret F R rfl rfl rfl dX1_isSign_53 ⟨_, rfl, rfl, h⟩
  replace h := h.2 c2
  refine g_iload_n F dX1_isSign_12 0 rfl ?_
  refine g_bipush (v := (59 : Int32)) F dX1_isSign_13 (by decide) ?_
  refine g_icmp_eq F dX1_isSign_15 (tgt := 48) (by decide) (fun c3 => ?_) (fun c3 => ?_)
  · replace h := h.1 c3
    refine g_iconst (v := (1 : Int32)) F dX1_isSign_48 (by decide) ?_
    refine g_goto F dX1_isSign_49 (tgt := 53) (by decide) ?_
    exact g_zret F R rfl rfl rfl dX1_isSign_53 ⟨_, rfl, rfl, h⟩
  replace h := h.2 c3
  refine g_iload_n F dX1_isSign_18 0 rfl ?_
  refine g_bipush (v := (43 : Int32)) F dX1_isSign_19 (by decide) ?_
  refine g_icmp_eq F dX1_isSign_21 (tgt := 48) (by decide) (fun c4 => ?_) (fun c4 => ?_)
  · replace h := h.1 c4
    refine g_iconst (v := (1 : Int32)) F dX1_isSign_48 (by decide) ?_
    refine g_goto F dX1_isSign_49 (tgt := 53) (by decide) ?_
    exact g_zret F R rfl rfl rfl dX1_isSign_53 ⟨_, rfl, rfl, h⟩
  replace h := h.2 c4
  refine g_iload_n F dX1_isSign_24 0 rfl ?_
  refine g_bipush (v := (45 : Int32)) F dX1_isSign_25 (by decide) ?_
  refine g_icmp_eq F dX1_isSign_27 (tgt := 48) (by decide) (fun c5 => ?_) (fun c5 => ?_)
  · replace h := h.1 c5
    refine g_iconst (v := (1 : Int32)) F dX1_isSign_48 (by decide) ?_
    refine g_goto F dX1_isSign_49 (tgt := 53) (by decide) ?_
    exact g_zret F R rfl rfl rfl dX1_isSign_53 ⟨_, rfl, rfl, h⟩
  replace h := h.2 c5
  refine g_iload_n F dX1_isSign_30 0 rfl ?_
  refine g_bipush (v := (42 : Int32)) F dX1_isSign_31 (by decide) ?_
  refine g_icmp_eq F dX1_isSign_33 (tgt := 48) (by decide) (fun c6 => ?_) (fun c6 => ?_)
  · replace h := h.1 c6
    refine g_iconst (v := (1 : Int32)) F dX1_isSign_48 (by decide) ?_
    refine g_goto F dX1_isSign_49 (tgt := 53) (by decide) ?_
    exact g_zret F R rfl rfl rfl dX1_isSign_53 ⟨_, rfl, rfl, h⟩
  replace h := h.2 c6
  refine g_iload_n F dX1_isSign_36 0 rfl ?_
  refine g_bipush (v := (60 : Int32)) F dX1_isSign_37 (by decide) ?_
  refine g_icmp_eq F dX1_isSign_39 (tgt := 48) (by decide) (fun c7 => ?_) (fun c7 => ?_)
  · replace h := h.1 c7
    refine g_iconst (v := (1 : Int32)) F dX1_isSign_48 (by decide) ?_
    refine g_goto F dX1_isSign_49 (tgt := 53) (by decide) ?_
    exact g_zret F R rfl rfl rfl dX1_isSign_53 ⟨_, rfl, rfl, h⟩
  replace h := h.2 c7
  refine g_iload_n F dX1_isSign_42 0 rfl ?_
  refine g_bipush (v := (61 : Int32)) F dX1_isSign_43 (by decide) ?_
  refine g_icmp_ne F dX1_isSign_45 (tgt := 52) (by decide) (fun c8 => ?_) (fun c8 => ?_)
  · replace h := h.1 c8
    refine g_iconst (v := (0 : Int32)) F dX1_isSign_52 (by decide) ?_
    exact g_zret F R rfl rfl rfl dX1_isSign_53 ⟨_, rfl, rfl, h⟩
  replace h := h.2 c8
  refine g_iconst (v := (1 : Int32)) F dX1_isSign_48 (by decide) ?_
  refine g_goto F dX1_isSign_49 (tgt := 53) (by decide) ?_
  exact g_zret F R rfl rfl rfl dX1_isSign_53 ⟨_, rfl, rfl, h⟩
theorem plX1_isSign : kPlain yX1_isSign 1 = true := by decide +kernel
theorem rX1_X1_isSign {z : kZ} {cc : ByteArray} {nL : Nat} {rm : Room} {c n pc : Nat} {lv : List (Nat × Value)} {st : List Value} {ws : va_W} {l0 : Int32} {Q : Int32 → Prop} (F : kF z cc RX1 nL rm) (hd : decode cc pc = .ok (.invokestatic 63, 3)) (hf : kFits rm 0 40 0 0 1 c n st = true) (h : wX1_isSign l0 Q) (k : ∀ v : Int32, Q v → kV z ws c n (pc + 3) lv (.int v :: st)) : kV z ws c n pc lv (.int l0 :: st) := g_callS F (av := [.int l0]) (ctX1_isSign _ _ _ ws h) wq466 wq467 wq112 wq468 plX1_isSign hd hf (fun r ws' hq => by
    obtain ⟨v, rfl, rfl, hq⟩ := hq
    exact k v hq)
theorem plX1_nextNumber : kPlain yX1_nextNumber 0 = true := by decide +kernel
theorem rX1_X1_nextNumber {z : kZ} {cc : ByteArray} {nL : Nat} {rm : Room} {c n pc : Nat} {lv : List (Nat × Value)} {st : List Value} {a : Nat → Nat} {tx : List kTxt} {E : va_W} {σ : kS} {Q : kS → Prop} (F : kF z cc RX1 nL rm) (hd : decode cc pc = .ok (.invokevirtual 60, 3)) (hf : kFits rm 1 60 0 0 1 c n st = true) (h : wX1_nextNumber σ Q) (k : ∀ σ' : kS, Q σ' → kV z (xW (zg z) a tx E σ') c n (pc + 3) lv st) : kV z (xW (zg z) a tx E σ) c n pc lv (.ref (a 30) :: st) := by
  exact g_callV F (av := []) (ctX1_nextNumber _ _ _ a tx E h) (ci := 1) (q0 := 30) rfl rfl rfl wq462 wq464 wq6 wq112 wq465 plX1_nextNumber hd hf (fun r ws' hq => by
    obtain ⟨σ', rfl, rfl, hq⟩ := hq
    exact k σ' hq)
theorem plX1_nextWord : kPlain yX1_nextWord 0 = true := by decide +kernel
theorem rX1_X1_nextWord {z : kZ} {cc : ByteArray} {nL : Nat} {rm : Room} {c n pc : Nat} {lv : List (Nat × Value)} {st : List Value} {a : Nat → Nat} {tx : List kTxt} {E : va_W} {σ : kS} {Q : kS → Prop} (F : kF z cc RX1 nL rm) (hd : decode cc pc = .ok (.invokevirtual 54, 3)) (hf : kFits rm 4 181 0 0 5 c n st = true) (h : wX1_nextWord σ Q) (k : ∀ σ' : kS, Q σ' → kV z (xW (zg z) a tx E σ') c n (pc + 3) lv st) : kV z (xW (zg z) a tx E σ) c n pc lv (.ref (a 30) :: st) := by
  exact g_callV F (av := []) (ctX1_nextWord _ _ _ a tx E h) (ci := 1) (q0 := 30) rfl rfl rfl wq392 wq394 wq5 wq112 wq395 plX1_nextWord hd hf (fun r ws' hq => by
    obtain ⟨σ', rfl, rfl, hq⟩ := hq
    exact k σ' hq)
set_option maxRecDepth 20000 in
theorem sX1_next_48 {z : kZ} {a : Nat → Nat} {tx : List kTxt} {E : va_W}  {Q : kS → Prop} {P9 : kS → Prop} {σ : kS} (F : kF z cX1_next RX1 1 { frames := 5, cells := 0, slots := 0, locals := 205 }) (R : kR z none 0 0 (kPv (xW (zg z) a tx E) Q)) (hP9 : ∀ (σ : kS), P9 σ → kV z (xW (zg z) a tx E σ) 0 0 9 [(0, .ref (a 30))] []) (h : wX1_next_48 Q P9 σ) : kV z (xW (zg z) a tx E σ) 0 0 48 [(0, .ref (a 30))] [] := by
  unfold wX1_next_48 at h
  refine g_aload_n F dX1_next_48 0 rfl ?_
  refine g_dup F dX1_next_49 rfl ?_
  refine rgX1_X1_at F dX1_next_50 ?_
  refine g_iconst (v := (1 : Int32)) F dX1_next_53 (by decide) ?_
  refine g_iadd F dX1_next_54 ?_
  refine rpX1_X1_at F dX1_next_55 ?_
  refine g_name (wf := xW (zg z) a tx E) (fun s16 es16 => ?_)
  replace h := h s16 es16
  refine g_goto F dX1_next_58 (tgt := 9) (by decide) ?_
  exact (hP9 _ h)
set_option maxRecDepth 20000 in
theorem sX1_next_161 {z : kZ} {a : Nat → Nat} {tx : List kTxt} {E : va_W}  {Q : kS → Prop} {ks0 : Int32} {σ : kS} (F : kF z cX1_next RX1 1 { frames := 5, cells := 0, slots := 0, locals := 205 }) (R : kR z none 0 0 (kPv (xW (zg z) a tx E) Q)) (h : wX1_next_161 Q ks0 σ) : kV z (xW (zg z) a tx E σ) 0 0 161 [(0, .ref (a 30))] [.int ks0, .ref (a 30)] := by
  unfold wX1_next_161 at h
  refine rpX1_X1_token F dX1_next_161 ?_
  refine g_name (wf := xW (zg z) a tx E) (fun s17 es17 => ?_)
  replace h := h s17 es17
  refine g_aload_n F dX1_next_164 0 rfl ?_
  refine g_dup F dX1_next_165 rfl ?_
  refine rgX1_X1_at F dX1_next_166 ?_
  refine g_iconst (v := (1 : Int32)) F dX1_next_169 (by decide) ?_
  refine g_iadd F dX1_next_170 ?_
  refine rpX1_X1_at F dX1_next_171 ?_
  refine g_name (wf := xW (zg z) a tx E) (fun s18 es18 => ?_)
  replace h := h s18 es18
  exact g_vret F R rfl rfl dX1_next_174 ⟨_, rfl, rfl, h⟩
set_option maxRecDepth 20000 in
theorem sX1_next_61 {z : kZ} {a : Nat → Nat} {tx : List kTxt} {E : va_W}  {Q : kS → Prop} {σ : kS} (F : kF z cX1_next RX1 1 { frames := 5, cells := 0, slots := 0, locals := 205 }) (R : kR z none 0 0 (kPv (xW (zg z) a tx E) Q)) (h : wX1_next_61 Q σ) : kV z (xW (zg z) a tx E σ) 0 0 61 [(0, .ref (a 30))] [] := by
  unfold wX1_next_61 at h
  refine g_aload_n F dX1_next_61 0 rfl ?_
  refine g_aload_n F dX1_next_62 0 rfl ?_
  refine rgX1_X1_at F dX1_next_63 ?_
  refine rpX1_X1_place F dX1_next_66 ?_
  refine g_name (wf := xW (zg z) a tx E) (fun s5 es5 => ?_)
  replace h := h s5 es5
  refine g_aload_n F dX1_next_69 0 rfl ?_
  refine rgX1_X1_at F dX1_next_70 ?_
  refine g_aload_n F dX1_next_73 0 rfl ?_
  refine rgX1_X1_size F dX1_next_74 ?_
  refine g_icmp_lt F dX1_next_77 (tgt := 88) (by decide) (fun c6 => ?_) (fun c6 => ?_)
  · replace h := h.1 c6
    refine g_aload_n F dX1_next_88 0 rfl ?_
    refine rgX1_X1_tape F dX1_next_89 ?_
    refine g_aload_n F dX1_next_92 0 rfl ?_
    refine rgX1_X1_at F dX1_next_93 ?_
    obtain ⟨hc, h⟩ := h
    refine g_iald (wf := xW (zg z) a tx E) F xA31 hc dX1_next_96 ?_
    refine rX1_X1_isLetter F dX1_next_97 rfl h (fun r7 h => ?_)
    refine g_if_eq F dX1_next_100 (tgt := 110) (by decide) (fun c8 => ?_) (fun c8 => ?_)
    · replace h := h.1 c8
      refine g_aload_n F dX1_next_110 0 rfl ?_
      refine rgX1_X1_tape F dX1_next_111 ?_
      refine g_aload_n F dX1_next_114 0 rfl ?_
      refine rgX1_X1_at F dX1_next_115 ?_
      obtain ⟨hc, h⟩ := h
      refine g_iald (wf := xW (zg z) a tx E) F xA31 hc dX1_next_118 ?_
      refine rX1_X1_isDigit F dX1_next_119 rfl h (fun r9 h => ?_)
      refine g_if_eq F dX1_next_122 (tgt := 132) (by decide) (fun c10 => ?_) (fun c10 => ?_)
      · replace h := h.1 c10
        refine g_aload_n F dX1_next_132 0 rfl ?_
        refine g_aload_n F dX1_next_133 0 rfl ?_
        refine rgX1_X1_tape F dX1_next_134 ?_
        refine g_aload_n F dX1_next_137 0 rfl ?_
        refine rgX1_X1_at F dX1_next_138 ?_
        obtain ⟨hc, h⟩ := h
        refine g_iald (wf := xW (zg z) a tx E) F xA31 hc dX1_next_141 ?_
        refine rX1_X1_isSign F dX1_next_142 rfl h (fun r11 h => ?_)
        refine g_if_eq F dX1_next_145 (tgt := 160) (by decide) (fun c12 => ?_) (fun c12 => ?_)
        · replace h := h.1 c12
          refine g_iconst (v := (1 : Int32)) F dX1_next_160 (by decide) ?_
          exact (sX1_next_161 F R h)
        replace h := h.2 c12
        refine g_aload_n F dX1_next_148 0 rfl ?_
        refine rgX1_X1_tape F dX1_next_149 ?_
        refine g_aload_n F dX1_next_152 0 rfl ?_
        refine rgX1_X1_at F dX1_next_153 ?_
        obtain ⟨hc, h⟩ := h
        refine g_iald (wf := xW (zg z) a tx E) F xA31 hc dX1_next_156 ?_
        refine g_goto F dX1_next_157 (tgt := 161) (by decide) ?_
        exact (sX1_next_161 F R h)
      replace h := h.2 c10
      refine g_aload_n F dX1_next_125 0 rfl ?_
      refine rX1_X1_nextNumber F dX1_next_126 rfl h (fun s13 h => ?_)
      refine g_goto F dX1_next_129 (tgt := 174) (by decide) ?_
      exact g_vret F R rfl rfl dX1_next_174 ⟨_, rfl, rfl, h⟩
    replace h := h.2 c8
    refine g_aload_n F dX1_next_103 0 rfl ?_
    refine rX1_X1_nextWord F dX1_next_104 rfl h (fun s14 h => ?_)
    refine g_goto F dX1_next_107 (tgt := 174) (by decide) ?_
    exact g_vret F R rfl rfl dX1_next_174 ⟨_, rfl, rfl, h⟩
  replace h := h.2 c6
  refine g_aload_n F dX1_next_80 0 rfl ?_
  refine g_iconst (v := (0 : Int32)) F dX1_next_81 (by decide) ?_
  refine rpX1_X1_token F dX1_next_82 ?_
  refine g_name (wf := xW (zg z) a tx E) (fun s15 es15 => ?_)
  replace h := h s15 es15
  refine g_goto F dX1_next_85 (tgt := 174) (by decide) ?_
  exact g_vret F R rfl rfl dX1_next_174 ⟨_, rfl, rfl, h⟩
set_option maxRecDepth 20000 in
theorem sX1_next_9 {z : kZ} {a : Nat → Nat} {tx : List kTxt} {E : va_W}  {Q : kS → Prop} {σ : kS} (F : kF z cX1_next RX1 1 { frames := 5, cells := 0, slots := 0, locals := 205 }) (R : kR z none 0 0 (kPv (xW (zg z) a tx E) Q)) (h : wX1_next_9 Q σ) : kV z (xW (zg z) a tx E σ) 0 0 9 [(0, .ref (a 30))] [] := by
  unfold wX1_next_9 at h
  refine h (fun σ => kV z (xW (zg z) a tx E σ) 0 0 9 [(0, .ref (a 30))] []) (fun σ h => ?_)
  refine g_aload_n F dX1_next_9 0 rfl ?_
  refine rgX1_X1_at F dX1_next_10 ?_
  refine g_aload_n F dX1_next_13 0 rfl ?_
  refine rgX1_X1_size F dX1_next_14 ?_
  refine g_icmp_ge F dX1_next_17 (tgt := 61) (by decide) (fun c2 => ?_) (fun c2 => ?_)
  · replace h := h.1 c2
    exact (sX1_next_61 F R h)
  replace h := h.2 c2
  refine g_aload_n F dX1_next_20 0 rfl ?_
  refine rgX1_X1_tape F dX1_next_21 ?_
  refine g_aload_n F dX1_next_24 0 rfl ?_
  refine rgX1_X1_at F dX1_next_25 ?_
  obtain ⟨hc, h⟩ := h
  refine g_iald (wf := xW (zg z) a tx E) F xA31 hc dX1_next_28 ?_
  refine g_bipush (v := (32 : Int32)) F dX1_next_29 (by decide) ?_
  refine g_icmp_eq F dX1_next_31 (tgt := 48) (by decide) (fun c3 => ?_) (fun c3 => ?_)
  · replace h := h.1 c3
    exact (sX1_next_48 F R (fun _ h => h) h)
  replace h := h.2 c3
  refine g_aload_n F dX1_next_34 0 rfl ?_
  refine rgX1_X1_tape F dX1_next_35 ?_
  refine g_aload_n F dX1_next_38 0 rfl ?_
  refine rgX1_X1_at F dX1_next_39 ?_
  obtain ⟨hc, h⟩ := h
  refine g_iald (wf := xW (zg z) a tx E) F xA31 hc dX1_next_42 ?_
  refine g_bipush (v := (10 : Int32)) F dX1_next_43 (by decide) ?_
  refine g_icmp_ne F dX1_next_45 (tgt := 61) (by decide) (fun c4 => ?_) (fun c4 => ?_)
  · replace h := h.1 c4
    exact (sX1_next_61 F R h)
  replace h := h.2 c4
  exact (sX1_next_48 F R (fun _ h => h) h)
set_option maxRecDepth 20000 in
theorem ctX1_next (l : Launch) (g : kG) (A : Nat → Prop) (a : Nat → Nat) (tx : List kTxt) (E : va_W) {σ : kS} {Q : kS → Prop} (h : wX1_next σ Q) : kCt l yX1_next cX1_next 1 none 5 205 0 0 g A [.ref (a 30)] (xW g a tx E σ) (kPv (xW g a tx E) Q) := by
  refine kCt.of (lv0 := [(0, .ref (a 30))]) (by decide +kernel) (Nat.le_of_ble_eq_true rfl) rfl (fun z hl hg hA F R => ?_)
  subst hl hg hA
  have F : kF z cX1_next RX1 1 { frames := 5, cells := 0, slots := 0, locals := 205 } := F
  unfold wX1_next at h
  refine g_aload_n F dX1_next_0 0 rfl ?_
  refine rgX1_X1_fault F dX1_next_1 ?_
  refine g_iconst (v := (-1 : Int32)) F dX1_next_4 (by decide) ?_
  refine g_icmp_eq F dX1_next_5 (tgt := 9) (by decide) (fun c1 => ?_) (fun c1 => ?_)
  · replace h := h.1 c1
    exact (sX1_next_9 F R h)
  replace h := h.2 c1
  exact g_vret F R rfl rfl dX1_next_8 ⟨_, rfl, rfl, h⟩
set_option maxRecDepth 20000 in
theorem ctX1_fail (l : Launch) (g : kG) (A : Nat → Prop) (a : Nat → Nat) (tx : List kTxt) (E : va_W) {σ : kS} {Q : kS → Prop} (h : wX1_fail σ Q) : kCt l yX1_fail cX1_fail 1 none 0 40 0 0 g A [.ref (a 30)] (xW g a tx E σ) (kPv (xW g a tx E) Q) := by
  refine kCt.of (lv0 := [(0, .ref (a 30))]) (by decide +kernel) (Nat.le_of_ble_eq_true rfl) rfl (fun z hl hg hA F R => ?_)
  subst hl hg hA
  have F : kF z cX1_fail RX1 1 { frames := 0, cells := 0, slots := 0, locals := 40 } := F
  unfold wX1_fail at h
  refine g_aload_n F dX1_fail_0 0 rfl ?_
  refine rgX1_X1_fault F dX1_fail_1 ?_
  refine g_iconst (v := (-1 : Int32)) F dX1_fail_4 (by decide) ?_
  refine g_icmp_ne F dX1_fail_5 (tgt := 21) (by decide) (fun c1 => ?_) (fun c1 => ?_)
  · replace h := h.1 c1
    exact g_vret F R rfl rfl dX1_fail_21 ⟨_, rfl, rfl, h⟩
  replace h := h.2 c1
  refine g_aload_n F dX1_fail_8 0 rfl ?_
  refine g_aload_n F dX1_fail_9 0 rfl ?_
  refine rgX1_X1_place F dX1_fail_10 ?_
  refine rpX1_X1_fault F dX1_fail_13 ?_
  refine g_name (wf := xW (zg z) a tx E) (fun s2 es2 => ?_)
  replace h := h s2 es2
  refine g_aload_n F dX1_fail_16 0 rfl ?_
  refine g_iconst (v := (1 : Int32)) F dX1_fail_17 (by decide) ?_
  refine rpX1_X1_token F dX1_fail_18 ?_
  refine g_name (wf := xW (zg z) a tx E) (fun s3 es3 => ?_)
  replace h := h s3 es3
  exact g_vret F R rfl rfl dX1_fail_21 ⟨_, rfl, rfl, h⟩
theorem plX1_fail : kPlain yX1_fail 0 = true := by decide +kernel
theorem rX1_X1_fail {z : kZ} {cc : ByteArray} {nL : Nat} {rm : Room} {c n pc : Nat} {lv : List (Nat × Value)} {st : List Value} {a : Nat → Nat} {tx : List kTxt} {E : va_W} {σ : kS} {Q : kS → Prop} (F : kF z cc RX1 nL rm) (hd : decode cc pc = .ok (.invokevirtual 107, 3)) (hf : kFits rm 0 40 0 0 1 c n st = true) (h : wX1_fail σ Q) (k : ∀ σ' : kS, Q σ' → kV z (xW (zg z) a tx E σ') c n (pc + 3) lv st) : kV z (xW (zg z) a tx E σ) c n pc lv (.ref (a 30) :: st) := by
  exact g_callV F (av := []) (ctX1_fail _ _ _ a tx E h) (ci := 1) (q0 := 30) rfl rfl rfl wq477 wq479 wq9 wq112 wq480 plX1_fail hd hf (fun r ws' hq => by
    obtain ⟨σ', rfl, rfl, hq⟩ := hq
    exact k σ' hq)
theorem plX1_next : kPlain yX1_next 0 = true := by decide +kernel
theorem rX1_X1_next {z : kZ} {cc : ByteArray} {nL : Nat} {rm : Room} {c n pc : Nat} {lv : List (Nat × Value)} {st : List Value} {a : Nat → Nat} {tx : List kTxt} {E : va_W} {σ : kS} {Q : kS → Prop} (F : kF z cc RX1 nL rm) (hd : decode cc pc = .ok (.invokevirtual 28, 3)) (hf : kFits rm 5 205 0 0 1 c n st = true) (h : wX1_next σ Q) (k : ∀ σ' : kS, Q σ' → kV z (xW (zg z) a tx E σ') c n (pc + 3) lv st) : kV z (xW (zg z) a tx E σ) c n pc lv (.ref (a 30) :: st) := by
  exact g_callV F (av := []) (ctX1_next _ _ _ a tx E h) (ci := 1) (q0 := 30) rfl rfl rfl wq385 wq387 wq4 wq112 wq388 plX1_next hd hf (fun r ws' hq => by
    obtain ⟨σ', rfl, rfl, hq⟩ := hq
    exact k σ' hq)
set_option maxRecDepth 20000 in
theorem ctX1_expect (l : Launch) (g : kG) (A : Nat → Prop) (a : Nat → Nat) (tx : List kTxt) (E : va_W) {l1 : Int32} {σ : kS} {Q : kS → Prop} (h : wX1_expect l1 σ Q) : kCt l yX1_expect cX1_expect 2 none 6 225 0 0 g A [.ref (a 30), .int l1] (xW g a tx E σ) (kPv (xW g a tx E) Q) := by
  refine kCt.of (lv0 := [(0, .ref (a 30)), (1, .int l1)]) (by decide +kernel) (Nat.le_of_ble_eq_true rfl) rfl (fun z hl hg hA F R => ?_)
  subst hl hg hA
  have F : kF z cX1_expect RX1 2 { frames := 6, cells := 0, slots := 0, locals := 225 } := F
  unfold wX1_expect at h
  refine g_aload_n F dX1_expect_0 0 rfl ?_
  refine rgX1_X1_token F dX1_expect_1 ?_
  refine g_iload_n F dX1_expect_4 1 rfl ?_
  refine g_icmp_ne F dX1_expect_5 (tgt := 15) (by decide) (fun c1 => ?_) (fun c1 => ?_)
  · replace h := h.1 c1
    refine g_aload_n F dX1_expect_15 0 rfl ?_
    refine rX1_X1_fail F dX1_expect_16 rfl h (fun s2 h => ?_)
    exact g_vret F R rfl rfl dX1_expect_19 ⟨_, rfl, rfl, h⟩
  replace h := h.2 c1
  refine g_aload_n F dX1_expect_8 0 rfl ?_
  refine rX1_X1_next F dX1_expect_9 rfl h (fun s3 h => ?_)
  refine g_goto F dX1_expect_12 (tgt := 19) (by decide) ?_
  exact g_vret F R rfl rfl dX1_expect_19 ⟨_, rfl, rfl, h⟩
set_option maxRecDepth 20000 in
theorem ctX1_emit (l : Launch) (g : kG) (A : Nat → Prop) (a : Nat → Nat) (tx : List kTxt) (E : va_W) {l1 : Int32} {σ : kS} {Q : kS → Prop} (h : wX1_emit l1 σ Q) : kCt l yX1_emit cX1_emit 2 none 0 40 0 0 g A [.ref (a 30), .int l1] (xW g a tx E σ) (kPv (xW g a tx E) Q) := by
  refine kCt.of (lv0 := [(0, .ref (a 30)), (1, .int l1)]) (by decide +kernel) (Nat.le_of_ble_eq_true rfl) rfl (fun z hl hg hA F R => ?_)
  subst hl hg hA
  have F : kF z cX1_emit RX1 2 { frames := 0, cells := 0, slots := 0, locals := 40 } := F
  unfold wX1_emit at h
  refine g_aload_n F dX1_emit_0 0 rfl ?_
  refine rgX1_X1_length F dX1_emit_1 ?_
  refine g_sipush (v := (160 : Int32)) F dX1_emit_4 (by decide) ?_
  refine g_icmp_ge F dX1_emit_7 (tgt := 30) (by decide) (fun c1 => ?_) (fun c1 => ?_)
  · replace h := h.1 c1
    exact g_vret F R rfl rfl dX1_emit_30 ⟨_, rfl, rfl, h⟩
  replace h := h.2 c1
  refine g_aload_n F dX1_emit_10 0 rfl ?_
  refine rgX1_X1_code F dX1_emit_11 ?_
  refine g_aload_n F dX1_emit_14 0 rfl ?_
  refine rgX1_X1_length F dX1_emit_15 ?_
  refine g_iload_n F dX1_emit_18 1 rfl ?_
  obtain ⟨hc, h⟩ := h
  refine g_iast (wf := xW (zg z) a tx E) F xA32 hc dX1_emit_19 ?_
  refine g_name (wf := xW (zg z) a tx E) (fun s2 es2 => ?_)
  replace h := h s2 es2
  refine g_aload_n F dX1_emit_20 0 rfl ?_
  refine g_dup F dX1_emit_21 rfl ?_
  refine rgX1_X1_length F dX1_emit_22 ?_
  refine g_iconst (v := (1 : Int32)) F dX1_emit_25 (by decide) ?_
  refine g_iadd F dX1_emit_26 ?_
  refine rpX1_X1_length F dX1_emit_27 ?_
  refine g_name (wf := xW (zg z) a tx E) (fun s3 es3 => ?_)
  replace h := h s3 es3
  exact g_vret F R rfl rfl dX1_emit_30 ⟨_, rfl, rfl, h⟩
set_option maxRecDepth 20000 in
theorem ctX2_has (l : Launch) (g : kG) (A : Nat → Prop) (a : Nat → Nat) (tx : List kTxt) (E : va_W) {l1 : Int32} {σ : kS} {Q : Int32 → kS → Prop} (h : wX2_has l1 σ Q) : kCt l yX2_has cX2_has 2 (some .boolean) 0 40 0 0 g A [.ref (a 33), .int l1] (xW g a tx E σ) (kPi (xW g a tx E) Q) := by
  refine kCt.of (lv0 := [(0, .ref (a 33)), (1, .int l1)]) (by decide +kernel) (Nat.le_of_ble_eq_true rfl) rfl (fun z hl hg hA F R => ?_)
  subst hl hg hA
  have F : kF z cX2_has RX2 2 { frames := 0, cells := 0, slots := 0, locals := 40 } := F
  unfold wX2_has at h
  refine g_iload_n F dX2_has_0 1 rfl ?_
  refine g_if_lt F dX2_has_1 (tgt := 13) (by decide) (fun c1 => ?_) (fun c1 => ?_)
  · replace h := h.1 c1
    refine g_iconst (v := (0 : Int32)) F dX2_has_13 (by decide) ?_
    exact g_zret F R rfl rfl rfl dX2_has_14 ⟨_, _, rfl, rfl, h⟩
  replace h := h.2 c1
  refine g_iload_n F dX2_has_4 1 rfl ?_
  refine g_iconst (v := (4 : Int32)) F dX2_has_5 (by decide) ?_
  refine g_icmp_ge F dX2_has_6 (tgt := 13) (by decide) (fun c2 => ?_) (fun c2 => ?_)
  · replace h := h.1 c2
    refine g_iconst (v := (0 : Int32)) F dX2_has_13 (by decide) ?_
    exact g_zret F R rfl rfl rfl dX2_has_14 ⟨_, _, rfl, rfl, h⟩
  replace h := h.2 c2
  refine g_iconst (v := (1 : Int32)) F dX2_has_9 (by decide) ?_
  refine g_goto F dX2_has_10 (tgt := 14) (by decide) ?_
  exact g_zret F R rfl rfl rfl dX2_has_14 ⟨_, _, rfl, rfl, h⟩
theorem plX2_has : kPlain yX2_has 1 = true := by decide +kernel
theorem rX2_X2_has {z : kZ} {cc : ByteArray} {nL : Nat} {rm : Room} {c n pc : Nat} {lv : List (Nat × Value)} {st : List Value} {a : Nat → Nat} {tx : List kTxt} {E : va_W} {σ : kS} {l1 : Int32} {Q : Int32 → kS → Prop} (F : kF z cc RX2 nL rm) (hd : decode cc pc = .ok (.invokevirtual 23, 3)) (hf : kFits rm 0 40 0 0 2 c n st = true) (h : wX2_has l1 σ Q) (k : ∀ (v : Int32) (σ' : kS), Q v σ' → kV z (xW (zg z) a tx E σ') c n (pc + 3) lv (.int v :: st)) : kV z (xW (zg z) a tx E σ) c n pc lv (.int l1 :: .ref (a 33) :: st) := by
  exact g_callV F (av := [.int l1]) (ctX2_has _ _ _ a tx E h) (ci := 2) (q0 := 33) rfl rfl rfl wq674 wq663 wq664 wq113 wq665 plX2_has hd hf (fun r ws' hq => by
    obtain ⟨v, σ', rfl, rfl, hq⟩ := hq
    exact k v σ' hq)
set_option maxRecDepth 20000 in
theorem ctX2_isMissing (l : Launch) (g : kG) (A : Nat → Prop) (a : Nat → Nat) (tx : List kTxt) (E : va_W) {l1 : Int32} {σ : kS} {Q : Int32 → kS → Prop} (h : wX2_isMissing l1 σ Q) : kCt l yX2_isMissing cX2_isMissing 2 (some .boolean) 1 61 0 0 g A [.ref (a 33), .int l1] (xW g a tx E σ) (kPi (xW g a tx E) Q) := by
  refine kCt.of (lv0 := [(0, .ref (a 33)), (1, .int l1)]) (by decide +kernel) (Nat.le_of_ble_eq_true rfl) rfl (fun z hl hg hA F R => ?_)
  subst hl hg hA
  have F : kF z cX2_isMissing RX2 2 { frames := 1, cells := 0, slots := 0, locals := 61 } := F
  unfold wX2_isMissing at h
  refine g_aload_n F dX2_isMissing_0 0 rfl ?_
  refine g_iload_n F dX2_isMissing_1 1 rfl ?_
  refine rX2_X2_has F dX2_isMissing_2 rfl h (fun r2 s1 h => ?_)
  refine g_if_eq F dX2_isMissing_5 (tgt := 18) (by decide) (fun c3 => ?_) (fun c3 => ?_)
  · replace h := h.1 c3
    refine g_iconst (v := (1 : Int32)) F dX2_isMissing_18 (by decide) ?_
    refine g_goto F dX2_isMissing_19 (tgt := 23) (by decide) ?_
    exact g_zret F R rfl rfl rfl dX2_isMissing_23 ⟨_, _, rfl, rfl, h⟩
  replace h := h.2 c3
  refine g_aload_n F dX2_isMissing_8 0 rfl ?_
  refine rgX2_X2_sorts F dX2_isMissing_9 ?_
  refine g_iload_n F dX2_isMissing_12 1 rfl ?_
  obtain ⟨hc, h⟩ := h
  refine g_iald (wf := xW (zg z) a tx E) F xA39 hc dX2_isMissing_13 ?_
  refine g_iconst (v := (-1 : Int32)) F dX2_isMissing_14 (by decide) ?_
  refine g_icmp_ne F dX2_isMissing_15 (tgt := 22) (by decide) (fun c4 => ?_) (fun c4 => ?_)
  · replace h := h.1 c4
    refine g_iconst (v := (0 : Int32)) F dX2_isMissing_22 (by decide) ?_
    exact g_zret F R rfl rfl rfl dX2_isMissing_23 ⟨_, _, rfl, rfl, h⟩
  replace h := h.2 c4
  refine g_iconst (v := (1 : Int32)) F dX2_isMissing_18 (by decide) ?_
  refine g_goto F dX2_isMissing_19 (tgt := 23) (by decide) ?_
  exact g_zret F R rfl rfl rfl dX2_isMissing_23 ⟨_, _, rfl, rfl, h⟩
set_option maxRecDepth 20000 in
theorem ctX2_sort (l : Launch) (g : kG) (A : Nat → Prop) (a : Nat → Nat) (tx : List kTxt) (E : va_W) {l1 : Int32} {σ : kS} {Q : Int32 → kS → Prop} (h : wX2_sort l1 σ Q) : kCt l yX2_sort cX2_sort 2 (some .int) 1 61 0 0 g A [.ref (a 33), .int l1] (xW g a tx E σ) (kPi (xW g a tx E) Q) := by
  refine kCt.of (lv0 := [(0, .ref (a 33)), (1, .int l1)]) (by decide +kernel) (Nat.le_of_ble_eq_true rfl) rfl (fun z hl hg hA F R => ?_)
  subst hl hg hA
  have F : kF z cX2_sort RX2 2 { frames := 1, cells := 0, slots := 0, locals := 61 } := F
  unfold wX2_sort at h
  refine g_aload_n F dX2_sort_0 0 rfl ?_
  refine g_iload_n F dX2_sort_1 1 rfl ?_
  refine rX2_X2_has F dX2_sort_2 rfl h (fun r2 s1 h => ?_)
  refine g_if_eq F dX2_sort_5 (tgt := 17) (by decide) (fun c3 => ?_) (fun c3 => ?_)
  · replace h := h.1 c3
    refine g_iconst (v := (-1 : Int32)) F dX2_sort_17 (by decide) ?_
    exact g_iret F R rfl rfl dX2_sort_18 ⟨_, _, rfl, rfl, h⟩
  replace h := h.2 c3
  refine g_aload_n F dX2_sort_8 0 rfl ?_
  refine rgX2_X2_sorts F dX2_sort_9 ?_
  refine g_iload_n F dX2_sort_12 1 rfl ?_
  obtain ⟨hc, h⟩ := h
  refine g_iald (wf := xW (zg z) a tx E) F xA39 hc dX2_sort_13 ?_
  refine g_goto F dX2_sort_14 (tgt := 18) (by decide) ?_
  exact g_iret F R rfl rfl dX2_sort_18 ⟨_, _, rfl, rfl, h⟩
set_option maxRecDepth 20000 in
theorem ctX2_size (l : Launch) (g : kG) (A : Nat → Prop) (a : Nat → Nat) (tx : List kTxt) (E : va_W) {l1 : Int32} {σ : kS} {Q : Int32 → kS → Prop} (h : wX2_size l1 σ Q) : kCt l yX2_size cX2_size 2 (some .int) 1 61 0 0 g A [.ref (a 33), .int l1] (xW g a tx E σ) (kPi (xW g a tx E) Q) := by
  refine kCt.of (lv0 := [(0, .ref (a 33)), (1, .int l1)]) (by decide +kernel) (Nat.le_of_ble_eq_true rfl) rfl (fun z hl hg hA F R => ?_)
  subst hl hg hA
  have F : kF z cX2_size RX2 2 { frames := 1, cells := 0, slots := 0, locals := 61 } := F
  unfold wX2_size at h
  refine g_aload_n F dX2_size_0 0 rfl ?_
  refine g_iload_n F dX2_size_1 1 rfl ?_
  refine rX2_X2_has F dX2_size_2 rfl h (fun r2 s1 h => ?_)
  refine g_if_eq F dX2_size_5 (tgt := 17) (by decide) (fun c3 => ?_) (fun c3 => ?_)
  · replace h := h.1 c3
    refine g_iconst (v := (0 : Int32)) F dX2_size_17 (by decide) ?_
    exact g_iret F R rfl rfl dX2_size_18 ⟨_, _, rfl, rfl, h⟩
  replace h := h.2 c3
  refine g_aload_n F dX2_size_8 0 rfl ?_
  refine rgX2_X2_sizes F dX2_size_9 ?_
  refine g_iload_n F dX2_size_12 1 rfl ?_
  obtain ⟨hc, h⟩ := h
  refine g_iald (wf := xW (zg z) a tx E) F xA40 hc dX2_size_13 ?_
  refine g_goto F dX2_size_14 (tgt := 18) (by decide) ?_
  exact g_iret F R rfl rfl dX2_size_18 ⟨_, _, rfl, rfl, h⟩
theorem plX2_size : kPlain yX2_size 1 = true := by decide +kernel
theorem rX2_X2_size {z : kZ} {cc : ByteArray} {nL : Nat} {rm : Room} {c n pc : Nat} {lv : List (Nat × Value)} {st : List Value} {a : Nat → Nat} {tx : List kTxt} {E : va_W} {σ : kS} {l1 : Int32} {Q : Int32 → kS → Prop} (F : kF z cc RX2 nL rm) (hd : decode cc pc = .ok (.invokevirtual 27, 3)) (hf : kFits rm 1 61 0 0 2 c n st = true) (h : wX2_size l1 σ Q) (k : ∀ (v : Int32) (σ' : kS), Q v σ' → kV z (xW (zg z) a tx E σ') c n (pc + 3) lv (.int v :: st)) : kV z (xW (zg z) a tx E σ) c n pc lv (.int l1 :: .ref (a 33) :: st) := by
  exact g_callV F (av := [.int l1]) (ctX2_size _ _ _ a tx E h) (ci := 2) (q0 := 33) rfl rfl rfl wq691 wq676 wq677 wq113 wq678 plX2_size hd hf (fun r ws' hq => by
    obtain ⟨v, σ', rfl, rfl, hq⟩ := hq
    exact k v σ' hq)
set_option maxRecDepth 20000 in
theorem ctX2_hasItem (l : Launch) (g : kG) (A : Nat → Prop) (a : Nat → Nat) (tx : List kTxt) (E : va_W) {l1 : Int32} {l2 : Int32} {σ : kS} {Q : Int32 → kS → Prop} (h : wX2_hasItem l1 l2 σ Q) : kCt l yX2_hasItem cX2_hasItem 3 (some .boolean) 2 82 0 0 g A [.ref (a 33), .int l1, .int l2] (xW g a tx E σ) (kPi (xW g a tx E) Q) := by
  refine kCt.of (lv0 := [(0, .ref (a 33)), (1, .int l1), (2, .int l2)]) (by decide +kernel) (Nat.le_of_ble_eq_true rfl) rfl (fun z hl hg hA F R => ?_)
  subst hl hg hA
  have F : kF z cX2_hasItem RX2 3 { frames := 2, cells := 0, slots := 0, locals := 82 } := F
  unfold wX2_hasItem at h
  refine g_iload_n F dX2_hasItem_0 2 rfl ?_
  refine g_if_lt F dX2_hasItem_1 (tgt := 17) (by decide) (fun c1 => ?_) (fun c1 => ?_)
  · replace h := h.1 c1
    refine g_iconst (v := (0 : Int32)) F dX2_hasItem_17 (by decide) ?_
    exact g_zret F R rfl rfl rfl dX2_hasItem_18 ⟨_, _, rfl, rfl, h⟩
  replace h := h.2 c1
  refine g_iload_n F dX2_hasItem_4 2 rfl ?_
  refine g_aload_n F dX2_hasItem_5 0 rfl ?_
  refine g_iload_n F dX2_hasItem_6 1 rfl ?_
  refine rX2_X2_size F dX2_hasItem_7 rfl h (fun r3 s2 h => ?_)
  refine g_icmp_ge F dX2_hasItem_10 (tgt := 17) (by decide) (fun c4 => ?_) (fun c4 => ?_)
  · replace h := h.1 c4
    refine g_iconst (v := (0 : Int32)) F dX2_hasItem_17 (by decide) ?_
    exact g_zret F R rfl rfl rfl dX2_hasItem_18 ⟨_, _, rfl, rfl, h⟩
  replace h := h.2 c4
  refine g_iconst (v := (1 : Int32)) F dX2_hasItem_13 (by decide) ?_
  refine g_goto F dX2_hasItem_14 (tgt := 18) (by decide) ?_
  exact g_zret F R rfl rfl rfl dX2_hasItem_18 ⟨_, _, rfl, rfl, h⟩
set_option maxRecDepth 20000 in
theorem ctX2_hasItems (l : Launch) (g : kG) (A : Nat → Prop) (a : Nat → Nat) (tx : List kTxt) (E : va_W) {l1 : Int32} {l2 : Int32} {l3 : Int32} {σ : kS} {Q : Int32 → kS → Prop} (h : wX2_hasItems l1 l2 l3 σ Q) : kCt l yX2_hasItems cX2_hasItems 4 (some .boolean) 2 82 0 0 g A [.ref (a 33), .int l1, .int l2, .int l3] (xW g a tx E σ) (kPi (xW g a tx E) Q) := by
  refine kCt.of (lv0 := [(0, .ref (a 33)), (1, .int l1), (2, .int l2), (3, .int l3)]) (by decide +kernel) (Nat.le_of_ble_eq_true rfl) rfl (fun z hl hg hA F R => ?_)
  subst hl hg hA
  have F : kF z cX2_hasItems RX2 4 { frames := 2, cells := 0, slots := 0, locals := 82 } := F
  unfold wX2_hasItems at h
  refine g_iload_n F dX2_hasItems_0 2 rfl ?_
  refine g_if_lt F dX2_hasItems_1 (tgt := 23) (by decide) (fun c1 => ?_) (fun c1 => ?_)
  · replace h := h.1 c1
    refine g_iconst (v := (0 : Int32)) F dX2_hasItems_23 (by decide) ?_
    exact g_zret F R rfl rfl rfl dX2_hasItems_24 ⟨_, _, rfl, rfl, h⟩
  replace h := h.2 c1
  refine g_iload_n F dX2_hasItems_4 3 rfl ?_
  refine g_if_lt F dX2_hasItems_5 (tgt := 23) (by decide) (fun c2 => ?_) (fun c2 => ?_)
  · replace h := h.1 c2
    refine g_iconst (v := (0 : Int32)) F dX2_hasItems_23 (by decide) ?_
    exact g_zret F R rfl rfl rfl dX2_hasItems_24 ⟨_, _, rfl, rfl, h⟩
  replace h := h.2 c2
  refine g_iload_n F dX2_hasItems_8 2 rfl ?_
  refine g_aload_n F dX2_hasItems_9 0 rfl ?_
  refine g_iload_n F dX2_hasItems_10 1 rfl ?_
  refine rX2_X2_size F dX2_hasItems_11 rfl h (fun r4 s3 h => ?_)
  refine g_iload_n F dX2_hasItems_14 3 rfl ?_
  refine g_isub F dX2_hasItems_15 ?_
  refine g_icmp_gt F dX2_hasItems_16 (tgt := 23) (by decide) (fun c5 => ?_) (fun c5 => ?_)
  · replace h := h.1 c5
    refine g_iconst (v := (0 : Int32)) F dX2_hasItems_23 (by decide) ?_
    exact g_zret F R rfl rfl rfl dX2_hasItems_24 ⟨_, _, rfl, rfl, h⟩
  replace h := h.2 c5
  refine g_iconst (v := (1 : Int32)) F dX2_hasItems_19 (by decide) ?_
  refine g_goto F dX2_hasItems_20 (tgt := 24) (by decide) ?_
  exact g_zret F R rfl rfl rfl dX2_hasItems_24 ⟨_, _, rfl, rfl, h⟩
