set_option maxRecDepth 20000 in
theorem sX4_fittingRivers_4 {z : kZ} {a : Nat → Nat} {tx : List kTxt} {E : va_W}  {Q : Int32 → kS → Prop} {l1 : Int32} {l2 : Int32} {l3 : Int32} {σ : kS} (F : kF z cX4_fittingRivers RX4 4 { frames := 6, cells := 0, slots := 0, locals := 200 }) (R : kR z (some .int) 0 0 (kPi (xW (zg z) a tx E) Q)) (hx : ∀ T ∈ tx, xIn (zg z) E T) (h : wX4_fittingRivers_4 tx Q l1 l2 l3 σ) : kV z (xW (zg z) a tx E σ) 0 0 4 [(0, .ref (a 0)), (1, .int l1), (2, .int l2), (3, .int l3)] [] := by
  unfold wX4_fittingRivers_4 at h
  refine h (fun σ l2 l3 => kV z (xW (zg z) a tx E σ) 0 0 4 [(0, .ref (a 0)), (1, .int l1), (2, .int l2), (3, .int l3)] []) (fun σ l2 l3 h => ?_)
  refine g_iload_n F dX4_fittingRivers_4 3 rfl ?_
  refine g_bipush (v := (100 : Int32)) F dX4_fittingRivers_5 (by decide) ?_
  refine g_icmp_ge F dX4_fittingRivers_7 (tgt := 31) (by decide) (fun c1 => ?_) (fun c1 => ?_)
  · replace h := h.1 c1
    refine g_iload_n F dX4_fittingRivers_31 2 rfl ?_
    exact g_iret F R rfl rfl dX4_fittingRivers_32 ⟨_, _, rfl, rfl, h⟩
  replace h := h.2 c1
  refine g_aload_n F dX4_fittingRivers_10 0 rfl ?_
  refine g_iload_n F dX4_fittingRivers_11 1 rfl ?_
  refine g_iconst (v := (0 : Int32)) F dX4_fittingRivers_12 (by decide) ?_
  refine g_iconst (v := (0 : Int32)) F dX4_fittingRivers_13 (by decide) ?_
  refine g_iload_n F dX4_fittingRivers_14 3 rfl ?_
  refine rX4_X4_firstOther F hx dX4_fittingRivers_15 rfl h (fun r3 s2 h => ?_)
  refine g_iconst (v := (-1 : Int32)) F dX4_fittingRivers_18 (by decide) ?_
  refine g_icmp_ne F dX4_fittingRivers_19 (tgt := 25) (by decide) (fun c4 => ?_) (fun c4 => ?_)
  · replace h := h.1 c4
    obtain ⟨x5, ex5⟩ : ∃ q : Int32, q = l3 + (1 : Int32) := ⟨_, rfl⟩
    replace h := h x5 ex5
    refine g_iinc (lv' := [(3, .int x5), (0, .ref (a 0)), (1, .int l1), (2, .int l2)]) (d := (1 : Int32)) F dX4_fittingRivers_25 rfl 3 rfl (by decide) ex5.symm rfl ?_
    refine g_goto F dX4_fittingRivers_28 (tgt := 4) (by decide) ?_
    exact (g_sub [1, 2, 3, 0] rfl h)
  replace h := h.2 c4
  obtain ⟨x6, ex6⟩ : ∃ q : Int32, q = l2 + (1 : Int32) := ⟨_, rfl⟩
  replace h := h x6 ex6
  refine g_iinc (lv' := [(2, .int x6), (0, .ref (a 0)), (1, .int l1), (3, .int l3)]) (d := (1 : Int32)) F dX4_fittingRivers_22 rfl 2 rfl (by decide) ex6.symm rfl ?_
  obtain ⟨x7, ex7⟩ : ∃ q : Int32, q = l3 + (1 : Int32) := ⟨_, rfl⟩
  replace h := h x7 ex7
  refine g_iinc (lv' := [(3, .int x7), (2, .int x6), (0, .ref (a 0)), (1, .int l1)]) (d := (1 : Int32)) F dX4_fittingRivers_25 rfl 3 rfl (by decide) ex7.symm rfl ?_
  refine g_goto F dX4_fittingRivers_28 (tgt := 4) (by decide) ?_
  exact (g_sub [2, 3, 1, 0] rfl h)
set_option maxRecDepth 20000 in
theorem ctX4_fittingRivers (l : Launch) (g : kG) (A : Nat → Prop) (a : Nat → Nat) (tx : List kTxt) (E : va_W) (hx : ∀ T ∈ tx, xIn g E T) {l1 : Int32} {σ : kS} {Q : Int32 → kS → Prop} (h : wX4_fittingRivers tx l1 σ Q) : kCt l yX4_fittingRivers cX4_fittingRivers 4 (some .int) 6 200 0 0 g A [.ref (a 0), .int l1] (xW g a tx E σ) (kPi (xW g a tx E) Q) := by
  refine kCt.of (lv0 := [(0, .ref (a 0)), (1, .int l1)]) (by decide +kernel) (Nat.le_of_ble_eq_true rfl) rfl (fun z hl hg hA F R => ?_)
  subst hl hg hA
  have F : kF z cX4_fittingRivers RX4 4 { frames := 6, cells := 0, slots := 0, locals := 200 } := F
  unfold wX4_fittingRivers at h
  refine g_iconst (v := (0 : Int32)) F dX4_fittingRivers_0 (by decide) ?_
  refine g_istore_n (lv' := [(2, .int (0 : Int32)), (0, .ref (a 0)), (1, .int l1)]) F dX4_fittingRivers_1 rfl rfl ?_
  refine g_iconst (v := (0 : Int32)) F dX4_fittingRivers_2 (by decide) ?_
  refine g_istore_n (lv' := [(3, .int (0 : Int32)), (2, .int (0 : Int32)), (0, .ref (a 0)), (1, .int l1)]) F dX4_fittingRivers_3 rfl rfl ?_
  exact g_sub [2, 3, 1, 0] rfl (sX4_fittingRivers_4 F R hx h)
set_option maxRecDepth 20000 in
theorem sX4_highestFittingRiver_3 {z : kZ} {a : Nat → Nat} {tx : List kTxt} {E : va_W}  {Q : Int32 → kS → Prop} {l1 : Int32} {l2 : Int32} {σ : kS} (F : kF z cX4_highestFittingRiver RX4 3 { frames := 6, cells := 0, slots := 0, locals := 200 }) (R : kR z (some .int) 0 0 (kPi (xW (zg z) a tx E) Q)) (hx : ∀ T ∈ tx, xIn (zg z) E T) (h : wX4_highestFittingRiver_3 tx Q l1 l2 σ) : kV z (xW (zg z) a tx E σ) 0 0 3 [(0, .ref (a 0)), (1, .int l1), (2, .int l2)] [] := by
  unfold wX4_highestFittingRiver_3 at h
  refine h (fun σ l2 => kV z (xW (zg z) a tx E σ) 0 0 3 [(0, .ref (a 0)), (1, .int l1), (2, .int l2)] []) (fun σ l2 h => ?_)
  refine g_iload_n F dX4_highestFittingRiver_3 2 rfl ?_
  refine g_if_lt F dX4_highestFittingRiver_4 (tgt := 27) (by decide) (fun c1 => ?_) (fun c1 => ?_)
  · replace h := h.1 c1
    refine g_iconst (v := (-1 : Int32)) F dX4_highestFittingRiver_27 (by decide) ?_
    exact g_iret F R rfl rfl dX4_highestFittingRiver_28 ⟨_, _, rfl, rfl, h⟩
  replace h := h.2 c1
  refine g_aload_n F dX4_highestFittingRiver_7 0 rfl ?_
  refine g_iload_n F dX4_highestFittingRiver_8 1 rfl ?_
  refine g_iconst (v := (0 : Int32)) F dX4_highestFittingRiver_9 (by decide) ?_
  refine g_iconst (v := (0 : Int32)) F dX4_highestFittingRiver_10 (by decide) ?_
  refine g_iload_n F dX4_highestFittingRiver_11 2 rfl ?_
  refine rX4_X4_firstOther F hx dX4_highestFittingRiver_12 rfl h (fun r3 s2 h => ?_)
  refine g_iconst (v := (-1 : Int32)) F dX4_highestFittingRiver_15 (by decide) ?_
  refine g_icmp_ne F dX4_highestFittingRiver_16 (tgt := 21) (by decide) (fun c4 => ?_) (fun c4 => ?_)
  · replace h := h.1 c4
    obtain ⟨x5, ex5⟩ : ∃ q : Int32, q = l2 + (-1 : Int32) := ⟨_, rfl⟩
    replace h := h x5 ex5
    refine g_iinc (lv' := [(2, .int x5), (0, .ref (a 0)), (1, .int l1)]) (d := (-1 : Int32)) F dX4_highestFittingRiver_21 rfl 2 rfl (by decide) ex5.symm rfl ?_
    refine g_goto F dX4_highestFittingRiver_24 (tgt := 3) (by decide) ?_
    exact (g_sub [1, 2, 0] rfl h)
  replace h := h.2 c4
  refine g_iload_n F dX4_highestFittingRiver_19 2 rfl ?_
  exact g_iret F R rfl rfl dX4_highestFittingRiver_20 ⟨_, _, rfl, rfl, h⟩
set_option maxRecDepth 20000 in
theorem ctX4_highestFittingRiver (l : Launch) (g : kG) (A : Nat → Prop) (a : Nat → Nat) (tx : List kTxt) (E : va_W) (hx : ∀ T ∈ tx, xIn g E T) {l1 : Int32} {σ : kS} {Q : Int32 → kS → Prop} (h : wX4_highestFittingRiver tx l1 σ Q) : kCt l yX4_highestFittingRiver cX4_highestFittingRiver 3 (some .int) 6 200 0 0 g A [.ref (a 0), .int l1] (xW g a tx E σ) (kPi (xW g a tx E) Q) := by
  refine kCt.of (lv0 := [(0, .ref (a 0)), (1, .int l1)]) (by decide +kernel) (Nat.le_of_ble_eq_true rfl) rfl (fun z hl hg hA F R => ?_)
  subst hl hg hA
  have F : kF z cX4_highestFittingRiver RX4 3 { frames := 6, cells := 0, slots := 0, locals := 200 } := F
  unfold wX4_highestFittingRiver at h
  refine g_bipush (v := (99 : Int32)) F dX4_highestFittingRiver_0 (by decide) ?_
  refine g_istore_n (lv' := [(2, .int (99 : Int32)), (0, .ref (a 0)), (1, .int l1)]) F dX4_highestFittingRiver_2 rfl rfl ?_
  exact g_sub [1, 2, 0] rfl (sX4_highestFittingRiver_3 F R hx h)
set_option maxRecDepth 20000 in
theorem ctX4_toldOfWork (l : Launch) (g : kG) (A : Nat → Prop) (ws : va_W) {l0 : Int32} {Q : Int32 → Prop} (h : wX4_toldOfWork l0 Q) : kCt l yX4_toldOfWork cX4_toldOfWork 1 (some .int) 0 40 0 0 g A [.int l0] ws (kTi ws Q) := by
  refine kCt.of (lv0 := [(0, .int l0)]) (by decide +kernel) (Nat.le_of_ble_eq_true rfl) rfl (fun z hl hg hA F R => ?_)
  subst hl hg hA
  have F : kF z cX4_toldOfWork RX4 1 { frames := 0, cells := 0, slots := 0, locals := 40 } := F
  unfold wX4_toldOfWork at h
  refine g_iload_n F dX4_toldOfWork_0 0 rfl ?_
  refine g_bipush (v := (10 : Int32)) F dX4_toldOfWork_1 (by decide) ?_
  refine g_idiv F dX4_toldOfWork_3 (by decide) ?_
  by_cases c1 : (l0 / (10 : Int32)) = (1 : Int32)
  · replace h := h.1 c1
    refine g_lookup F dX4_toldOfWork_4 (by decide) (off := 28) (by rw [c1]; decide) (tgt := 32) (by decide) ?_
    refine g_bipush (v := (8 : Int32)) F dX4_toldOfWork_32 (by decide) ?_
    exact g_iret F R rfl rfl dX4_toldOfWork_34 ⟨_, rfl, rfl, h⟩
  replace h := h.2
  by_cases c2 : (l0 / (10 : Int32)) = (2 : Int32)
  · replace h := h.1 c2
    refine g_lookup F dX4_toldOfWork_4 (by decide) (off := 31) (by rw [c2]; decide) (tgt := 35) (by decide) ?_
    refine g_iconst (v := (5 : Int32)) F dX4_toldOfWork_35 (by decide) ?_
    exact g_iret F R rfl rfl dX4_toldOfWork_36 ⟨_, rfl, rfl, h⟩
  replace h := h.2
  replace h := h c1 c2
  refine g_lookup F dX4_toldOfWork_4 (by decide) (off := 33) (kLook (by decide) c1 (kLook (by decide) c2 (kLook0))) (tgt := 37) (by decide) ?_
  refine g_bipush (v := (6 : Int32)) F dX4_toldOfWork_37 (by decide) ?_
  exact g_iret F R rfl rfl dX4_toldOfWork_39 ⟨_, rfl, rfl, h⟩
theorem rX4_X2_has {z : kZ} {cc : ByteArray} {nL : Nat} {rm : Room} {c n pc : Nat} {lv : List (Nat × Value)} {st : List Value} {a : Nat → Nat} {tx : List kTxt} {E : va_W} {σ : kS} {l1 : Int32} {Q : Int32 → kS → Prop} (F : kF z cc RX4 nL rm) (hd : decode cc pc = .ok (.invokevirtual 169, 3)) (hf : kFits rm 0 40 0 0 2 c n st = true) (h : wX2_has l1 σ Q) (k : ∀ (v : Int32) (σ' : kS), Q v σ' → kV z (xW (zg z) a tx E σ') c n (pc + 3) lv (.int v :: st)) : kV z (xW (zg z) a tx E σ) c n pc lv (.int l1 :: .ref (a 33) :: st) := by
  exact g_callV F (av := [.int l1]) (ctX2_has _ _ _ a tx E h) (ci := 2) (q0 := 33) rfl rfl rfl wq662 wq663 wq664 wq113 wq665 plX2_has hd hf (fun r ws' hq => by
    obtain ⟨v, σ', rfl, rfl, hq⟩ := hq
    exact k v σ' hq)
theorem plX4_isOfTells : kPlain yX4_isOfTells 1 = true := by decide +kernel
theorem rX4_X4_isOfTells {z : kZ} {cc : ByteArray} {nL : Nat} {rm : Room} {c n pc : Nat} {lv : List (Nat × Value)} {st : List Value} {a : Nat → Nat} {tx : List kTxt} {E : va_W} {σ : kS} {l1 : Int32} {Q : Int32 → kS → Prop} (F : kF z cc RX4 nL rm) (hd : decode cc pc = .ok (.invokevirtual 171, 3)) (hf : kFits rm 0 40 0 0 2 c n st = true) (h : wX4_isOfTells l1 σ Q) (k : ∀ (v : Int32) (σ' : kS), Q v σ' → kV z (xW (zg z) a tx E σ') c n (pc + 3) lv (.int v :: st)) : kV z (xW (zg z) a tx E σ) c n pc lv (.int l1 :: .ref (a 0) :: st) := by
  exact g_callV F (av := [.int l1]) (ctX4_isOfTells _ _ _ a tx E h) (ci := 4) (q0 := 0) rfl rfl rfl wq666 wq668 wq33 wq109 wq669 plX4_isOfTells hd hf (fun r ws' hq => by
    obtain ⟨v, σ', rfl, rfl, hq⟩ := hq
    exact k v σ' hq)
theorem plX2_isMissing : kPlain yX2_isMissing 1 = true := by decide +kernel
theorem rX4_X2_isMissing {z : kZ} {cc : ByteArray} {nL : Nat} {rm : Room} {c n pc : Nat} {lv : List (Nat × Value)} {st : List Value} {a : Nat → Nat} {tx : List kTxt} {E : va_W} {σ : kS} {l1 : Int32} {Q : Int32 → kS → Prop} (F : kF z cc RX4 nL rm) (hd : decode cc pc = .ok (.invokevirtual 174, 3)) (hf : kFits rm 1 61 0 0 2 c n st = true) (h : wX2_isMissing l1 σ Q) (k : ∀ (v : Int32) (σ' : kS), Q v σ' → kV z (xW (zg z) a tx E σ') c n (pc + 3) lv (.int v :: st)) : kV z (xW (zg z) a tx E σ) c n pc lv (.int l1 :: .ref (a 33) :: st) := by
  exact g_callV F (av := [.int l1]) (ctX2_isMissing _ _ _ a tx E h) (ci := 2) (q0 := 33) rfl rfl rfl wq670 wq671 wq672 wq113 wq673 plX2_isMissing hd hf (fun r ws' hq => by
    obtain ⟨v, σ', rfl, rfl, hq⟩ := hq
    exact k v σ' hq)
theorem plX4_fitting : kPlain yX4_fitting 4 = true := by decide +kernel
theorem rX4_X4_fitting {z : kZ} {cc : ByteArray} {nL : Nat} {rm : Room} {c n pc : Nat} {lv : List (Nat × Value)} {st : List Value} {a : Nat → Nat} {tx : List kTxt} {E : va_W} {σ : kS} {l1 : Int32} {l2 : Int32} {l3 : Int32} {l4 : Int32} {Q : Int32 → kS → Prop} (F : kF z cc RX4 nL rm) (hx : ∀ T ∈ tx, xIn (zg z) E T) (hd : decode cc pc = .ok (.invokevirtual 183, 3)) (hf : kFits rm 6 200 0 0 7 c n st = true) (h : wX4_fitting tx l1 l2 l3 l4 σ Q) (k : ∀ (v : Int32) (σ' : kS), Q v σ' → kV z (xW (zg z) a tx E σ') c n (pc + 3) lv (.int v :: st)) : kV z (xW (zg z) a tx E σ) c n pc lv (.int l4 :: .int l3 :: .int l2 :: .int l1 :: .ref (a 0) :: st) := by
  exact g_callV F (av := [.int l1, .int l2, .int l3, .int l4]) (ctX4_fitting _ _ _ a tx E hx h) (ci := 4) (q0 := 0) rfl rfl rfl wq692 wq694 wq35 wq109 wq695 plX4_fitting hd hf (fun r ws' hq => by
    obtain ⟨v, σ', rfl, rfl, hq⟩ := hq
    exact k v σ' hq)
theorem plX4_fittingRivers : kPlain yX4_fittingRivers 1 = true := by decide +kernel
theorem rX4_X4_fittingRivers {z : kZ} {cc : ByteArray} {nL : Nat} {rm : Room} {c n pc : Nat} {lv : List (Nat × Value)} {st : List Value} {a : Nat → Nat} {tx : List kTxt} {E : va_W} {σ : kS} {l1 : Int32} {Q : Int32 → kS → Prop} (F : kF z cc RX4 nL rm) (hx : ∀ T ∈ tx, xIn (zg z) E T) (hd : decode cc pc = .ok (.invokevirtual 186, 3)) (hf : kFits rm 6 200 0 0 4 c n st = true) (h : wX4_fittingRivers tx l1 σ Q) (k : ∀ (v : Int32) (σ' : kS), Q v σ' → kV z (xW (zg z) a tx E σ') c n (pc + 3) lv (.int v :: st)) : kV z (xW (zg z) a tx E σ) c n pc lv (.int l1 :: .ref (a 0) :: st) := by
  exact g_callV F (av := [.int l1]) (ctX4_fittingRivers _ _ _ a tx E hx h) (ci := 4) (q0 := 0) rfl rfl rfl wq696 wq698 wq36 wq109 wq699 plX4_fittingRivers hd hf (fun r ws' hq => by
    obtain ⟨v, σ', rfl, rfl, hq⟩ := hq
    exact k v σ' hq)
theorem plX4_highestFittingRiver : kPlain yX4_highestFittingRiver 1 = true := by decide +kernel
theorem rX4_X4_highestFittingRiver {z : kZ} {cc : ByteArray} {nL : Nat} {rm : Room} {c n pc : Nat} {lv : List (Nat × Value)} {st : List Value} {a : Nat → Nat} {tx : List kTxt} {E : va_W} {σ : kS} {l1 : Int32} {Q : Int32 → kS → Prop} (F : kF z cc RX4 nL rm) (hx : ∀ T ∈ tx, xIn (zg z) E T) (hd : decode cc pc = .ok (.invokevirtual 189, 3)) (hf : kFits rm 6 200 0 0 3 c n st = true) (h : wX4_highestFittingRiver tx l1 σ Q) (k : ∀ (v : Int32) (σ' : kS), Q v σ' → kV z (xW (zg z) a tx E σ') c n (pc + 3) lv (.int v :: st)) : kV z (xW (zg z) a tx E σ) c n pc lv (.int l1 :: .ref (a 0) :: st) := by
  exact g_callV F (av := [.int l1]) (ctX4_highestFittingRiver _ _ _ a tx E hx h) (ci := 4) (q0 := 0) rfl rfl rfl wq700 wq702 wq37 wq109 wq703 plX4_highestFittingRiver hd hf (fun r ws' hq => by
    obtain ⟨v, σ', rfl, rfl, hq⟩ := hq
    exact k v σ' hq)
theorem plX4_toldOfWork : kPlain yX4_toldOfWork 1 = true := by decide +kernel
theorem rX4_X4_toldOfWork {z : kZ} {cc : ByteArray} {nL : Nat} {rm : Room} {c n pc : Nat} {lv : List (Nat × Value)} {st : List Value} {ws : va_W} {l0 : Int32} {Q : Int32 → Prop} (F : kF z cc RX4 nL rm) (hd : decode cc pc = .ok (.invokestatic 192, 3)) (hf : kFits rm 0 40 0 0 1 c n st = true) (h : wX4_toldOfWork l0 Q) (k : ∀ v : Int32, Q v → kV z ws c n (pc + 3) lv (.int v :: st)) : kV z ws c n pc lv (.int l0 :: st) := g_callS F (av := [.int l0]) (ctX4_toldOfWork _ _ _ ws h) wq704 wq705 wq109 wq706 plX4_toldOfWork hd hf (fun r ws' hq => by
    obtain ⟨v, rfl, rfl, hq⟩ := hq
    exact k v hq)
set_option maxRecDepth 20000 in
theorem ctX4_tells (l : Launch) (g : kG) (A : Nat → Prop) (a : Nat → Nat) (tx : List kTxt) (E : va_W) (hx : ∀ T ∈ tx, xIn g E T) {l1 : Int32} {l2 : Int32} {σ : kS} {Q : Int32 → kS → Prop} (h : wX4_tells tx l1 l2 σ Q) : kCt l yX4_tells cX4_tells 3 (some .int) 7 226 0 0 g A [.ref (a 0), .int l1, .int l2] (xW g a tx E σ) (kPi (xW g a tx E) Q) := by
  refine kCt.of (lv0 := [(0, .ref (a 0)), (1, .int l1), (2, .int l2)]) (by decide +kernel) (Nat.le_of_ble_eq_true rfl) rfl (fun z hl hg hA F R => ?_)
  subst hl hg hA
  have F : kF z cX4_tells RX4 3 { frames := 7, cells := 0, slots := 0, locals := 226 } := F
  unfold wX4_tells at h
  refine g_aload_n F dX4_tells_0 0 rfl ?_
  refine rgX4_X4_sheets F dX4_tells_1 ?_
  refine g_iload_n F dX4_tells_4 1 rfl ?_
  refine rX4_X2_has F dX4_tells_5 rfl h (fun r2 s1 h => ?_)
  refine g_if_eq F dX4_tells_8 (tgt := 19) (by decide) (fun c3 => ?_) (fun c3 => ?_)
  · replace h := h.1 c3
    refine g_bipush (v := (-2 : Int32)) F dX4_tells_19 (by decide) ?_
    exact g_iret F R rfl rfl dX4_tells_21 ⟨_, _, rfl, rfl, h⟩
  replace h := h.2 c3
  refine g_aload_n F dX4_tells_11 0 rfl ?_
  refine g_iload_n F dX4_tells_12 2 rfl ?_
  refine rX4_X4_isOfTells F dX4_tells_13 rfl h (fun r5 s4 h => ?_)
  refine g_if_ne F dX4_tells_16 (tgt := 22) (by decide) (fun c6 => ?_) (fun c6 => ?_)
  · replace h := h.1 c6
    refine g_aload_n F dX4_tells_22 0 rfl ?_
    refine rgX4_X4_sheets F dX4_tells_23 ?_
    refine g_iload_n F dX4_tells_26 1 rfl ?_
    refine rX4_X2_isMissing F dX4_tells_27 rfl h (fun r8 s7 h => ?_)
    refine g_if_eq F dX4_tells_30 (tgt := 36) (by decide) (fun c9 => ?_) (fun c9 => ?_)
    · replace h := h.1 c9
      refine g_aload_n F dX4_tells_36 0 rfl ?_
      refine rgX4_X4_sheets F dX4_tells_37 ?_
      refine g_iload_n F dX4_tells_40 1 rfl ?_
      refine rX4_X2_size F dX4_tells_41 rfl h (fun r11 s10 h => ?_)
      refine g_bipush (v := (30 : Int32)) F dX4_tells_44 (by decide) ?_
      refine g_icmp_le F dX4_tells_46 (tgt := 52) (by decide) (fun c12 => ?_) (fun c12 => ?_)
      · replace h := h.1 c12
        refine g_iload_n F dX4_tells_52 2 rfl ?_
        by_cases c13 : l2 = (0 : Int32)
        · replace h := h.1 c13
          refine g_tableIn F dX4_tells_53 (0 : Int32) c13 (off := 31) (tgt := 84) (by decide) (by decide) ?_
          refine g_aload_n F dX4_tells_84 0 rfl ?_
          refine g_iload_n F dX4_tells_85 1 rfl ?_
          refine g_iconst (v := (0 : Int32)) F dX4_tells_86 (by decide) ?_
          refine g_iconst (v := (0 : Int32)) F dX4_tells_87 (by decide) ?_
          refine g_aload_n F dX4_tells_88 0 rfl ?_
          refine rgX4_X4_now F dX4_tells_89 ?_
          refine rgX4_X0_river fen3 F dX4_tells_92 ?_
          refine rX4_X4_firstOther F hx dX4_tells_95 rfl h (fun r15 s14 h => ?_)
          exact g_iret F R rfl rfl dX4_tells_98 ⟨_, _, rfl, rfl, h⟩
        replace h := h.2
        by_cases c16 : l2 = (1 : Int32)
        · replace h := h.1 c16
          refine g_tableIn F dX4_tells_53 (1 : Int32) c16 (off := 46) (tgt := 99) (by decide) (by decide) ?_
          refine g_aload_n F dX4_tells_99 0 rfl ?_
          refine g_iload_n F dX4_tells_100 1 rfl ?_
          refine g_bipush (v := (11 : Int32)) F dX4_tells_101 (by decide) ?_
          refine g_iconst (v := (0 : Int32)) F dX4_tells_103 (by decide) ?_
          refine g_aload_n F dX4_tells_104 0 rfl ?_
          refine rgX4_X4_textCount F dX4_tells_105 ?_
          refine rX4_X4_fitting F hx dX4_tells_108 rfl h (fun r18 s17 h => ?_)
          exact g_iret F R rfl rfl dX4_tells_111 ⟨_, _, rfl, rfl, h⟩
        replace h := h.2
        by_cases c19 : l2 = (2 : Int32)
        · replace h := h.1 c19
          refine g_tableIn F dX4_tells_53 (2 : Int32) c19 (off := 59) (tgt := 112) (by decide) (by decide) ?_
          refine g_aload_n F dX4_tells_112 0 rfl ?_
          refine g_iload_n F dX4_tells_113 1 rfl ?_
          refine rX4_X4_fittingRivers F hx dX4_tells_114 rfl h (fun r21 s20 h => ?_)
          exact g_iret F R rfl rfl dX4_tells_117 ⟨_, _, rfl, rfl, h⟩
        replace h := h.2
        by_cases c22 : l2 = (3 : Int32)
        · replace h := h.1 c22
          refine g_tableIn F dX4_tells_53 (3 : Int32) c22 (off := 65) (tgt := 118) (by decide) (by decide) ?_
          refine g_aload_n F dX4_tells_118 0 rfl ?_
          refine g_iload_n F dX4_tells_119 1 rfl ?_
          refine rX4_X4_highestFittingRiver F hx dX4_tells_120 rfl h (fun r24 s23 h => ?_)
          exact g_iret F R rfl rfl dX4_tells_123 ⟨_, _, rfl, rfl, h⟩
        replace h := h.2
        replace h := h c13 c16 c19 c22
        refine g_tableOut F dX4_tells_53 4 (by decide) (lt_s (lt_s (lt_s (lt_s (lt_0) c13) c16) c19) c22) (tgt := 124) (by decide) ?_
        refine g_aload_n F dX4_tells_124 0 rfl ?_
        refine g_iload_n F dX4_tells_125 1 rfl ?_
        refine g_iload_n F dX4_tells_126 2 rfl ?_
        refine rX4_X4_toldOfWork F dX4_tells_127 rfl h (fun r25 h => ?_)
        refine g_iload_n F dX4_tells_130 2 rfl ?_
        refine g_bipush (v := (10 : Int32)) F dX4_tells_131 (by decide) ?_
        refine g_irem F dX4_tells_133 (by decide) ?_
        refine g_iload_n F dX4_tells_134 2 rfl ?_
        refine rX4_X4_toldOfWork F dX4_tells_135 rfl h (fun r26 h => ?_)
        refine rX4_X0_most F dX4_tells_138 rfl h (fun r27 h => ?_)
        refine g_iconst (v := (1 : Int32)) F dX4_tells_141 (by decide) ?_
        refine g_iadd F dX4_tells_142 ?_
        refine rX4_X4_fitting F hx dX4_tells_143 rfl h (fun r29 s28 h => ?_)
        exact g_iret F R rfl rfl dX4_tells_146 ⟨_, _, rfl, rfl, h⟩
      replace h := h.2 c12
      refine g_bipush (v := (-2 : Int32)) F dX4_tells_49 (by decide) ?_
      exact g_iret F R rfl rfl dX4_tells_51 ⟨_, _, rfl, rfl, h⟩
    replace h := h.2 c9
    refine g_bipush (v := (-11 : Int32)) F dX4_tells_33 (by decide) ?_
    exact g_iret F R rfl rfl dX4_tells_35 ⟨_, _, rfl, rfl, h⟩
  replace h := h.2 c6
  refine g_bipush (v := (-2 : Int32)) F dX4_tells_19 (by decide) ?_
  exact g_iret F R rfl rfl dX4_tells_21 ⟨_, _, rfl, rfl, h⟩
theorem plX2_make : kPlain yX2_make 3 = true := by decide +kernel
theorem rX4_X2_make {z : kZ} {cc : ByteArray} {nL : Nat} {rm : Room} {c n pc : Nat} {lv : List (Nat × Value)} {st : List Value} {a : Nat → Nat} {tx : List kTxt} {E : va_W} {σ : kS} {l1 : Int32} {l2 : Int32} {l3 : Int32} {Q : kS → Prop} (F : kF z cc RX4 nL rm) (hd : decode cc pc = .ok (.invokevirtual 195, 3)) (hf : kFits rm 1 61 0 0 5 c n st = true) (h : wX2_make l1 l2 l3 σ Q) (k : ∀ σ' : kS, Q σ' → kV z (xW (zg z) a tx E σ') c n (pc + 3) lv st) : kV z (xW (zg z) a tx E σ) c n pc lv (.int l3 :: .int l2 :: .int l1 :: .ref (a 33) :: st) := by
  exact g_callV F (av := [.int l1, .int l2, .int l3]) (ctX2_make _ _ _ a tx E h) (ci := 2) (q0 := 33) rfl rfl rfl wq711 wq712 wq713 wq113 wq714 plX2_make hd hf (fun r ws' hq => by
    obtain ⟨σ', rfl, rfl, hq⟩ := hq
    exact k σ' hq)
theorem plX2_put : kPlain yX2_put 3 = true := by decide +kernel
theorem rX4_X2_put {z : kZ} {cc : ByteArray} {nL : Nat} {rm : Room} {c n pc : Nat} {lv : List (Nat × Value)} {st : List Value} {a : Nat → Nat} {tx : List kTxt} {E : va_W} {σ : kS} {l1 : Int32} {l2 : Int32} {l3 : Int32} {Q : kS → Prop} (F : kF z cc RX4 nL rm) (hd : decode cc pc = .ok (.invokevirtual 198, 3)) (hf : kFits rm 3 104 0 0 4 c n st = true) (h : wX2_put l1 l2 l3 σ Q) (k : ∀ σ' : kS, Q σ' → kV z (xW (zg z) a tx E σ') c n (pc + 3) lv st) : kV z (xW (zg z) a tx E σ) c n pc lv (.int l3 :: .int l2 :: .int l1 :: .ref (a 33) :: st) := by
  exact g_callV F (av := [.int l1, .int l2, .int l3]) (ctX2_put _ _ _ a tx E h) (ci := 2) (q0 := 33) rfl rfl rfl wq715 wq716 wq717 wq113 wq718 plX2_put hd hf (fun r ws' hq => by
    obtain ⟨σ', rfl, rfl, hq⟩ := hq
    exact k σ' hq)
set_option maxRecDepth 20000 in
theorem sX4_film_38 {z : kZ} {a : Nat → Nat} {tx : List kTxt} {E : va_W}  {Q : Int32 → kS → Prop} {l1 : Int32} {l2 : Int32} {l3 : Int32} {σ : kS} (F : kF z cX4_film RX4 4 { frames := 6, cells := 0, slots := 0, locals := 196 }) (R : kR z (some .int) 0 0 (kPi (xW (zg z) a tx E) Q)) (hx : ∀ T ∈ tx, xIn (zg z) E T) (h : wX4_film_38 tx Q l1 l2 l3 σ) : kV z (xW (zg z) a tx E σ) 0 0 38 [(0, .ref (a 0)), (1, .int l1), (2, .int l2), (3, .int l3)] [] := by
  unfold wX4_film_38 at h
  refine h (fun σ l3 => kV z (xW (zg z) a tx E σ) 0 0 38 [(0, .ref (a 0)), (1, .int l1), (2, .int l2), (3, .int l3)] []) (fun σ l3 h => ?_)
  refine g_iload_n F dX4_film_38 3 rfl ?_
  refine g_iload_n F dX4_film_39 2 rfl ?_
  refine g_icmp_ge F dX4_film_40 (tgt := 64) (by decide) (fun c8 => ?_) (fun c8 => ?_)
  · replace h := h.1 c8
    refine g_iload_n F dX4_film_64 2 rfl ?_
    exact g_iret F R rfl rfl dX4_film_65 ⟨_, _, rfl, rfl, h⟩
  replace h := h.2 c8
  refine g_aload_n F dX4_film_43 0 rfl ?_
  refine rgX4_X4_sheets F dX4_film_44 ?_
  refine g_iload_n F dX4_film_47 1 rfl ?_
  refine g_iload_n F dX4_film_48 3 rfl ?_
  refine g_aload_n F dX4_film_49 0 rfl ?_
  refine rgX4_X4_dried F dX4_film_50 ?_
  refine g_iload_n F dX4_film_53 3 rfl ?_
  obtain ⟨hc, h⟩ := h
  refine g_iald (wf := xW (zg z) a tx E) F xA1 hc dX4_film_54 ?_
  refine rX4_X2_put F dX4_film_55 rfl h (fun s9 h => ?_)
  obtain ⟨x10, ex10⟩ : ∃ q : Int32, q = l3 + (1 : Int32) := ⟨_, rfl⟩
  replace h := h x10 ex10
  refine g_iinc (lv' := [(3, .int x10), (0, .ref (a 0)), (1, .int l1), (2, .int l2)]) (d := (1 : Int32)) F dX4_film_58 rfl 3 rfl (by decide) ex10.symm rfl ?_
  refine g_goto F dX4_film_61 (tgt := 38) (by decide) ?_
  exact (g_sub [1, 2, 3, 0] rfl h)
set_option maxRecDepth 20000 in
theorem ctX4_film (l : Launch) (g : kG) (A : Nat → Prop) (a : Nat → Nat) (tx : List kTxt) (E : va_W) (hx : ∀ T ∈ tx, xIn g E T) {l1 : Int32} {l2 : Int32} {σ : kS} {Q : Int32 → kS → Prop} (h : wX4_film tx l1 l2 σ Q) : kCt l yX4_film cX4_film 4 (some .int) 6 196 0 0 g A [.ref (a 0), .int l1, .int l2] (xW g a tx E σ) (kPi (xW g a tx E) Q) := by
  refine kCt.of (lv0 := [(0, .ref (a 0)), (1, .int l1), (2, .int l2)]) (by decide +kernel) (Nat.le_of_ble_eq_true rfl) rfl (fun z hl hg hA F R => ?_)
  subst hl hg hA
  have F : kF z cX4_film RX4 4 { frames := 6, cells := 0, slots := 0, locals := 196 } := F
  unfold wX4_film at h
  refine g_aload_n F dX4_film_0 0 rfl ?_
  refine rgX4_X4_sheets F dX4_film_1 ?_
  refine g_iload_n F dX4_film_4 1 rfl ?_
  refine rX4_X2_has F dX4_film_5 rfl h (fun r2 s1 h => ?_)
  refine g_if_eq F dX4_film_8 (tgt := 18) (by decide) (fun c3 => ?_) (fun c3 => ?_)
  · replace h := h.1 c3
    refine g_bipush (v := (-2 : Int32)) F dX4_film_18 (by decide) ?_
    exact g_iret F R rfl rfl dX4_film_20 ⟨_, _, rfl, rfl, h⟩
  replace h := h.2 c3
  refine g_iload_n F dX4_film_11 2 rfl ?_
  refine rX4_X4_areYears F dX4_film_12 rfl h (fun r4 h => ?_)
  refine g_if_ne F dX4_film_15 (tgt := 21) (by decide) (fun c5 => ?_) (fun c5 => ?_)
  · replace h := h.1 c5
    refine g_aload_n F dX4_film_21 0 rfl ?_
    refine g_iload_n F dX4_film_22 2 rfl ?_
    refine rX4_X4_thinkYears F hx dX4_film_23 rfl h (fun s6 h => ?_)
    refine g_aload_n F dX4_film_26 0 rfl ?_
    refine rgX4_X4_sheets F dX4_film_27 ?_
    refine g_iload_n F dX4_film_30 1 rfl ?_
    refine g_iconst (v := (1 : Int32)) F dX4_film_31 (by decide) ?_
    refine g_iload_n F dX4_film_32 2 rfl ?_
    refine rX4_X2_make F dX4_film_33 rfl h (fun s7 h => ?_)
    refine g_iconst (v := (0 : Int32)) F dX4_film_36 (by decide) ?_
    refine g_istore_n (lv' := [(3, .int (0 : Int32)), (0, .ref (a 0)), (1, .int l1), (2, .int l2)]) F dX4_film_37 rfl rfl ?_
    exact g_sub [1, 2, 3, 0] rfl (sX4_film_38 F R hx h)
  replace h := h.2 c5
  refine g_bipush (v := (-2 : Int32)) F dX4_film_18 (by decide) ?_
  exact g_iret F R rfl rfl dX4_film_20 ⟨_, _, rfl, rfl, h⟩
theorem plX0_pourOnAll : kPlain yX0_pourOnAll 1 = true := by decide +kernel
theorem rX4_X0_pourOnAll {z : kZ} {cc : ByteArray} {nL : Nat} {rm : Room} {c n pc : Nat} {lv : List (Nat × Value)} {st : List Value} {a : Nat → Nat} {tx : List kTxt} {E : va_W} {σ : kS} {b : Nat} {l1 : Int32} {Q : kS → Prop} (F : kF z cc RX4 nL rm) (hb : isFen b) (hd : decode cc pc = .ok (.invokevirtual 241, 3)) (hf : kFits rm 2 102 0 0 3 c n st = true) (h : wX0_pourOnAll b l1 σ Q) (k : ∀ σ' : kS, Q σ' → kV z (xW (zg z) a tx E σ') c n (pc + 3) lv st) : kV z (xW (zg z) a tx E σ) c n pc lv (.int l1 :: .ref (a b) :: st) := by
  exact g_callV F (av := [.int l1]) (ctX0_pourOnAll _ _ _ a tx E hb h) (ci := 0) (q0 := b) rfl (xFen_at hb) rfl wq731 wq732 wq733 wq110 wq734 plX0_pourOnAll hd hf (fun r ws' hq => by
    obtain ⟨σ', rfl, rfl, hq⟩ := hq
    exact k σ' hq)
set_option maxRecDepth 20000 in
theorem sX4_dryDrawn_9 {z : kZ} {a : Nat → Nat} {tx : List kTxt} {E : va_W}  {Q : Int32 → kS → Prop} {l2 : Int32} {l3 : Int32} {l4 : Int32} {σ : kS} (F : kF z cX4_dryDrawn RX4 5 { frames := 5, cells := 0, slots := 0, locals := 174 }) (R : kR z (some .int) 0 0 (kPi (xW (zg z) a tx E) Q)) (hx : ∀ T ∈ tx, xIn (zg z) E T) (h : wX4_dryDrawn_9 tx Q l2 l3 l4 σ) : kV z (xW (zg z) a tx E σ) 0 0 9 [(0, .ref (a 0)), (2, .int l2), (3, .int l3), (4, .int l4)] [] := by
  unfold wX4_dryDrawn_9 at h
  refine h (fun σ l3 l4 => kV z (xW (zg z) a tx E σ) 0 0 9 [(0, .ref (a 0)), (2, .int l2), (3, .int l3), (4, .int l4)] []) (fun σ l3 l4 h => ?_)
  refine g_iload F dX4_dryDrawn_9 3 rfl ?_
  refine g_iload_n F dX4_dryDrawn_11 1 rfl ?_
  refine g_icmp_ge F dX4_dryDrawn_12 (tgt := 59) (by decide) (fun c2 => ?_) (fun c2 => ?_)
  · replace h := h.1 c2
    refine g_aload_n F dX4_dryDrawn_59 0 rfl ?_
    refine rgX4_X4_thought F dX4_dryDrawn_60 ?_
    refine rX4_X0_dryCells F fen12 dX4_dryDrawn_63 rfl h (fun r4 s3 h => ?_)
    refine rX4_J6_bitCount F dX4_dryDrawn_66 rfl h (fun r5 h => ?_)
    exact g_iret F R rfl rfl dX4_dryDrawn_69 ⟨_, _, rfl, rfl, h⟩
  replace h := h.2 c2
  refine g_iload_n F dX4_dryDrawn_15 2 rfl ?_
  refine g_ldc (v := (1103515245 : Int32)) F dX4_dryDrawn_16 wq730 ?_
  refine g_imul F dX4_dryDrawn_18 ?_
  refine g_sipush (v := (12345 : Int32)) F dX4_dryDrawn_19 (by decide) ?_
  refine g_iadd F dX4_dryDrawn_22 ?_
  refine g_topi (fun x6 ex6 => ?_)
  replace h := h x6 ex6
  refine g_istore_n (lv' := [(3, .int x6), (0, .ref (a 0)), (2, .int l2), (4, .int l4)]) F dX4_dryDrawn_23 rfl rfl ?_
  refine g_aload_n F dX4_dryDrawn_24 1 rfl ?_
  refine rgX4_X4_thought F dX4_dryDrawn_25 ?_
  refine g_iload_n F dX4_dryDrawn_28 0 rfl ?_
  refine g_bipush (v := (9 : Int32)) F dX4_dryDrawn_29 (by decide) ?_
  refine g_iushr F dX4_dryDrawn_31 ?_
  refine g_bipush (v := (10 : Int32)) F dX4_dryDrawn_32 (by decide) ?_
  refine g_irem F dX4_dryDrawn_34 (by decide) ?_
  refine rX4_X0_pourOnAll F fen12 dX4_dryDrawn_35 rfl h (fun s7 h => ?_)
  refine g_aload_n F dX4_dryDrawn_38 1 rfl ?_
  refine rgX4_X4_thought F dX4_dryDrawn_39 ?_
  refine g_aload_n F dX4_dryDrawn_42 1 rfl ?_
  refine g_aload_n F dX4_dryDrawn_43 1 rfl ?_
  refine rgX4_X4_thought F dX4_dryDrawn_44 ?_
  refine rX4_X4_ruleOf F fen12 hx dX4_dryDrawn_47 rfl h (fun r9 hr9 s8 h => ?_)
  refine rX4_X0_passYear F fen12 hr9 dX4_dryDrawn_50 rfl h (fun s10 h => ?_)
  obtain ⟨x11, ex11⟩ : ∃ q : Int32, q = l4 + (1 : Int32) := ⟨_, rfl⟩
  replace h := h x11 ex11
  refine g_iinc (lv' := [(4, .int x11), (3, .int x6), (0, .ref (a 0)), (2, .int l2)]) (d := (1 : Int32)) F dX4_dryDrawn_53 rfl 3 rfl (by decide) ex11.symm rfl ?_
  refine g_goto F dX4_dryDrawn_56 (tgt := 9) (by decide) ?_
  exact (g_sub [2, 3, 1, 0] rfl h)
set_option maxRecDepth 20000 in
theorem ctX4_dryDrawn (l : Launch) (g : kG) (A : Nat → Prop) (a : Nat → Nat) (tx : List kTxt) (E : va_W) (hx : ∀ T ∈ tx, xIn g E T) {l1 : Int32} {l2 : Int32} {σ : kS} {Q : Int32 → kS → Prop} (h : wX4_dryDrawn tx l1 l2 σ Q) : kCt l yX4_dryDrawn cX4_dryDrawn 5 (some .int) 5 174 0 0 g A [.ref (a 0), .int l1, .int l2] (xW g a tx E σ) (kPi (xW g a tx E) Q) := by
  refine kCt.of (lv0 := [(0, .ref (a 0)), (1, .int l1), (2, .int l2)]) (by decide +kernel) (Nat.le_of_ble_eq_true rfl) rfl (fun z hl hg hA F R => ?_)
  subst hl hg hA
  have F : kF z cX4_dryDrawn RX4 5 { frames := 5, cells := 0, slots := 0, locals := 174 } := F
  unfold wX4_dryDrawn at h
  refine g_aload_n F dX4_dryDrawn_0 0 rfl ?_
  refine rX4_X4_think F dX4_dryDrawn_1 rfl h (fun s1 h => ?_)
  refine g_iload_n F dX4_dryDrawn_4 1 rfl ?_
  refine g_istore_n (lv' := [(3, .int l1), (0, .ref (a 0)), (1, .int l1), (2, .int l2)]) F dX4_dryDrawn_5 rfl rfl ?_
  refine g_iconst (v := (0 : Int32)) F dX4_dryDrawn_6 (by decide) ?_
  refine g_istore (lv' := [(4, .int (0 : Int32)), (3, .int l1), (0, .ref (a 0)), (1, .int l1), (2, .int l2)]) F dX4_dryDrawn_7 rfl rfl ?_
  exact g_sub [2, 4, 1, 0] rfl (sX4_dryDrawn_9 F R hx h)
theorem plX4_dryDrawn : kPlain yX4_dryDrawn 2 = true := by decide +kernel
theorem rX4_X4_dryDrawn {z : kZ} {cc : ByteArray} {nL : Nat} {rm : Room} {c n pc : Nat} {lv : List (Nat × Value)} {st : List Value} {a : Nat → Nat} {tx : List kTxt} {E : va_W} {σ : kS} {l1 : Int32} {l2 : Int32} {Q : Int32 → kS → Prop} (F : kF z cc RX4 nL rm) (hx : ∀ T ∈ tx, xIn (zg z) E T) (hd : decode cc pc = .ok (.invokevirtual 199, 3)) (hf : kFits rm 5 174 0 0 5 c n st = true) (h : wX4_dryDrawn tx l1 l2 σ Q) (k : ∀ (v : Int32) (σ' : kS), Q v σ' → kV z (xW (zg z) a tx E σ') c n (pc + 3) lv (.int v :: st)) : kV z (xW (zg z) a tx E σ) c n pc lv (.int l2 :: .int l1 :: .ref (a 0) :: st) := by
  exact g_callV F (av := [.int l1, .int l2]) (ctX4_dryDrawn _ _ _ a tx E hx h) (ci := 4) (q0 := 0) rfl rfl rfl wq726 wq728 wq38 wq109 wq729 plX4_dryDrawn hd hf (fun r ws' hq => by
    obtain ⟨v, σ', rfl, rfl, hq⟩ := hq
    exact k v σ' hq)
set_option maxRecDepth 20000 in
theorem ctX4_drawn (l : Launch) (g : kG) (A : Nat → Prop) (a : Nat → Nat) (tx : List kTxt) (E : va_W) (hx : ∀ T ∈ tx, xIn g E T) {l1 : Int32} {l2 : Int32} {σ : kS} {Q : Int32 → kS → Prop} (h : wX4_drawn tx l1 l2 σ Q) : kCt l yX4_drawn cX4_drawn 3 (some .int) 6 198 0 0 g A [.ref (a 0), .int l1, .int l2] (xW g a tx E σ) (kPi (xW g a tx E) Q) := by
  refine kCt.of (lv0 := [(0, .ref (a 0)), (1, .int l1), (2, .int l2)]) (by decide +kernel) (Nat.le_of_ble_eq_true rfl) rfl (fun z hl hg hA F R => ?_)
  subst hl hg hA
  have F : kF z cX4_drawn RX4 3 { frames := 6, cells := 0, slots := 0, locals := 198 } := F
  unfold wX4_drawn at h
  refine g_iload_n F dX4_drawn_0 2 rfl ?_
  refine rX4_X4_areYears F dX4_drawn_1 rfl h (fun r1 h => ?_)
  refine g_if_ne F dX4_drawn_4 (tgt := 10) (by decide) (fun c2 => ?_) (fun c2 => ?_)
  · replace h := h.1 c2
    refine g_aload_n F dX4_drawn_10 0 rfl ?_
    refine g_iload_n F dX4_drawn_11 1 rfl ?_
    refine g_iload_n F dX4_drawn_12 2 rfl ?_
    refine rX4_X4_dryDrawn F hx dX4_drawn_13 rfl h (fun r4 s3 h => ?_)
    exact g_iret F R rfl rfl dX4_drawn_16 ⟨_, _, rfl, rfl, h⟩
  replace h := h.2 c2
  refine g_bipush (v := (-2 : Int32)) F dX4_drawn_7 (by decide) ?_
  exact g_iret F R rfl rfl dX4_drawn_9 ⟨_, _, rfl, rfl, h⟩
set_option maxRecDepth 20000 in
theorem sX4_commonDivisor_34 {z : kZ} {ws : va_W}  {Q : Int32 → Prop} {l2 : Int32} (F : kF z cX4_commonDivisor RX4 6 { frames := 0, cells := 0, slots := 0, locals := 40 }) (R : kR z (some .int) 0 0 (kTi ws Q)) (h : wX4_commonDivisor_34 Q l2) : kV z ws 0 0 34 [(2, .int l2)] [] := by
  unfold wX4_commonDivisor_34 at h
  refine g_iload_n F dX4_commonDivisor_34 0 rfl ?_
  refine g_iconst (v := (1 : Int32)) F dX4_commonDivisor_35 (by decide) ?_
  refine g_icmp_ge F dX4_commonDivisor_36 (tgt := 43) (by decide) (fun c5 => ?_) (fun c5 => ?_)
  · replace h := h.1 c5
    refine g_iload_n F dX4_commonDivisor_43 0 rfl ?_
    exact g_iret F R rfl rfl dX4_commonDivisor_44 ⟨_, rfl, rfl, h⟩
  replace h := h.2 c5
  refine g_iconst (v := (1 : Int32)) F dX4_commonDivisor_39 (by decide) ?_
  refine g_goto F dX4_commonDivisor_40 (tgt := 44) (by decide) ?_
  exact g_iret F R rfl rfl dX4_commonDivisor_44 ⟨_, rfl, rfl, h⟩
set_option maxRecDepth 20000 in
theorem sX4_commonDivisor_7 {z : kZ} {ws : va_W}  {Q : Int32 → Prop} {l2 : Int32} {l3 : Int32} {l4 : Int32} (F : kF z cX4_commonDivisor RX4 6 { frames := 0, cells := 0, slots := 0, locals := 40 }) (R : kR z (some .int) 0 0 (kTi ws Q)) (h : wX4_commonDivisor_7 Q l2 l3 l4) : kV z ws 0 0 7 [(2, .int l2), (3, .int l3), (4, .int l4)] [] := by
  unfold wX4_commonDivisor_7 at h
  refine h (fun l2 l3 l4 => kV z ws 0 0 7 [(2, .int l2), (3, .int l3), (4, .int l4)] []) (fun l2 l3 l4 h => ?_)
  refine g_iload F dX4_commonDivisor_7 2 rfl ?_
  refine g_bipush (v := (64 : Int32)) F dX4_commonDivisor_9 (by decide) ?_
  refine g_icmp_ge F dX4_commonDivisor_11 (tgt := 34) (by decide) (fun c1 => ?_) (fun c1 => ?_)
  · replace h := h.1 c1
    exact g_sub [0] rfl (sX4_commonDivisor_34 F R h)
  replace h := h.2 c1
  refine g_iload_n F dX4_commonDivisor_14 1 rfl ?_
  refine g_if_eq F dX4_commonDivisor_15 (tgt := 34) (by decide) (fun c2 => ?_) (fun c2 => ?_)
  · replace h := h.1 c2
    exact g_sub [0] rfl (sX4_commonDivisor_34 F R h)
  replace h := h.2 c2
  refine g_iload_n F dX4_commonDivisor_18 0 rfl ?_
  refine g_iload_n F dX4_commonDivisor_19 1 rfl ?_
  obtain ⟨hc, h⟩ := h
  refine g_irem F dX4_commonDivisor_20 hc ?_
  refine g_topi (fun x3 ex3 => ?_)
  replace h := h x3 ex3
  refine g_istore (lv' := [(5, .int x3), (2, .int l2), (3, .int l3), (4, .int l4)]) F dX4_commonDivisor_21 rfl rfl ?_
  refine g_iload_n F dX4_commonDivisor_23 2 rfl ?_
  refine g_istore_n (lv' := [(2, .int l3), (5, .int x3), (3, .int l3), (4, .int l4)]) F dX4_commonDivisor_24 rfl rfl ?_
  refine g_iload F dX4_commonDivisor_25 1 rfl ?_
  refine g_istore_n (lv' := [(3, .int x3), (2, .int l3), (5, .int x3), (4, .int l4)]) F dX4_commonDivisor_27 rfl rfl ?_
  obtain ⟨x4, ex4⟩ : ∃ q : Int32, q = l4 + (1 : Int32) := ⟨_, rfl⟩
  replace h := h x4 ex4
  refine g_iinc (lv' := [(4, .int x4), (3, .int x3), (2, .int l3), (5, .int x3)]) (d := (1 : Int32)) F dX4_commonDivisor_28 rfl 3 rfl (by decide) ex4.symm rfl ?_
  refine g_goto F dX4_commonDivisor_31 (tgt := 7) (by decide) ?_
  exact (g_sub [2, 1, 0] rfl h)
set_option maxRecDepth 20000 in
theorem ctX4_commonDivisor (l : Launch) (g : kG) (A : Nat → Prop) (ws : va_W) {l0 : Int32} {l1 : Int32} {Q : Int32 → Prop} (h : wX4_commonDivisor l0 l1 Q) : kCt l yX4_commonDivisor cX4_commonDivisor 6 (some .int) 0 40 0 0 g A [.int l0, .int l1] ws (kTi ws Q) := by
  refine kCt.of (lv0 := [(0, .int l0), (1, .int l1)]) (by decide +kernel) (Nat.le_of_ble_eq_true rfl) rfl (fun z hl hg hA F R => ?_)
  subst hl hg hA
  have F : kF z cX4_commonDivisor RX4 6 { frames := 0, cells := 0, slots := 0, locals := 40 } := F
  unfold wX4_commonDivisor at h
  refine g_iload_n F dX4_commonDivisor_0 0 rfl ?_
  refine g_istore_n (lv' := [(2, .int l0), (0, .int l0), (1, .int l1)]) F dX4_commonDivisor_1 rfl rfl ?_
  refine g_iload_n F dX4_commonDivisor_2 2 rfl ?_
  refine g_istore_n (lv' := [(3, .int l1), (2, .int l0), (0, .int l0), (1, .int l1)]) F dX4_commonDivisor_3 rfl rfl ?_
  refine g_iconst (v := (0 : Int32)) F dX4_commonDivisor_4 (by decide) ?_
  refine g_istore (lv' := [(4, .int (0 : Int32)), (3, .int l1), (2, .int l0), (0, .int l0), (1, .int l1)]) F dX4_commonDivisor_5 rfl rfl ?_
  exact g_sub [2, 1, 0] rfl (sX4_commonDivisor_7 F R h)
theorem plX4_commonDivisor : kPlain yX4_commonDivisor 2 = true := by decide +kernel
theorem rX4_X4_commonDivisor {z : kZ} {cc : ByteArray} {nL : Nat} {rm : Room} {c n pc : Nat} {lv : List (Nat × Value)} {st : List Value} {ws : va_W} {l0 : Int32} {l1 : Int32} {Q : Int32 → Prop} (F : kF z cc RX4 nL rm) (hd : decode cc pc = .ok (.invokestatic 204, 3)) (hf : kFits rm 0 40 0 0 6 c n st = true) (h : wX4_commonDivisor l0 l1 Q) (k : ∀ v : Int32, Q v → kV z ws c n (pc + 3) lv (.int v :: st)) : kV z ws c n pc lv (.int l1 :: .int l0 :: st) := g_callS F (av := [.int l0, .int l1]) (ctX4_commonDivisor _ _ _ ws h) wq740 wq741 wq109 wq742 plX4_commonDivisor hd hf (fun r ws' hq => by
    obtain ⟨v, rfl, rfl, hq⟩ := hq
    exact k v hq)
set_option maxRecDepth 20000 in
theorem sX4_chance_66 {z : kZ} {a : Nat → Nat} {tx : List kTxt} {E : va_W}  {Q : Int64 → kS → Prop} {l1 : Int32} {l2 : Int32} {l4 : Int32} {l5 : Int32} {l6 : Int32} {l7 : Int32} {l8 : Int32} {σ : kS} (F : kF z cX4_chance RX4 9 { frames := 6, cells := 0, slots := 0, locals := 198 }) (R : kR z (some .long) 0 0 (kPl (xW (zg z) a tx E) Q)) (hx : ∀ T ∈ tx, xIn (zg z) E T) (h : wX4_chance_66 tx Q l1 l2 l4 l5 l6 l7 l8 σ) : kV z (xW (zg z) a tx E σ) 0 0 66 [(0, .ref (a 0)), (1, .int l1), (2, .int l2), (4, .int l4), (5, .int l5), (6, .int l6), (7, .int l7), (8, .int l8)] [] := by
  unfold wX4_chance_66 at h
  refine h (fun σ l7 l8 => kV z (xW (zg z) a tx E σ) 0 0 66 [(0, .ref (a 0)), (1, .int l1), (2, .int l2), (4, .int l4), (5, .int l5), (6, .int l6), (7, .int l7), (8, .int l8)] []) (fun σ l7 l8 h => ?_)
  refine g_iload F dX4_chance_66 7 rfl ?_
  refine g_iload_n F dX4_chance_68 2 rfl ?_
  refine g_icmp_ge F dX4_chance_69 (tgt := 96) (by decide) (fun c10 => ?_) (fun c10 => ?_)
  · replace h := h.1 c10
    refine g_iload F dX4_chance_96 6 rfl ?_
    refine g_iload_n F dX4_chance_98 2 rfl ?_
    refine rX4_X4_commonDivisor F dX4_chance_99 rfl h (fun r11 h => ?_)
    refine g_istore (lv' := [(8, .int r11), (0, .ref (a 0)), (1, .int l1), (2, .int l2), (4, .int l4), (5, .int l5), (6, .int l6), (7, .int l7)]) F dX4_chance_102 rfl rfl ?_
    refine g_iload F dX4_chance_104 4 rfl ?_
    refine g_if_ne F dX4_chance_106 (tgt := 118) (by decide) (fun c12 => ?_) (fun c12 => ?_)
    · replace h := h.1 c12
      refine g_iload_n F dX4_chance_118 3 rfl ?_
      refine g_iload F dX4_chance_119 0 rfl ?_
      obtain ⟨hc, h⟩ := h
      refine g_idiv F dX4_chance_121 hc ?_
      refine g_i2l F dX4_chance_122 ?_
      exact g_lret F R rfl rfl dX4_chance_123 ⟨_, _, rfl, rfl, h⟩
    replace h := h.2 c12
    refine g_iload F dX4_chance_109 7 rfl ?_
    refine g_iload F dX4_chance_111 0 rfl ?_
    obtain ⟨hc, h⟩ := h
    refine g_idiv F dX4_chance_113 hc ?_
    refine g_i2l F dX4_chance_114 ?_
    refine g_goto F dX4_chance_115 (tgt := 123) (by decide) ?_
    exact g_lret F R rfl rfl dX4_chance_123 ⟨_, _, rfl, rfl, h⟩
  replace h := h.2 c10
  refine g_aload_n F dX4_chance_72 0 rfl ?_
  refine g_iload_n F dX4_chance_73 1 rfl ?_
  refine g_iload F dX4_chance_74 7 rfl ?_
  refine g_iadd F dX4_chance_76 ?_
  refine g_iload F dX4_chance_77 4 rfl ?_
  refine rX4_X4_dryDrawn F hx dX4_chance_79 rfl h (fun r14 s13 h => ?_)
  refine g_iload F dX4_chance_82 5 rfl ?_
  refine g_icmp_lt F dX4_chance_84 (tgt := 90) (by decide) (fun c15 => ?_) (fun c15 => ?_)
  · replace h := h.1 c15
    obtain ⟨x16, ex16⟩ : ∃ q : Int32, q = l8 + (1 : Int32) := ⟨_, rfl⟩
    replace h := h x16 ex16
    refine g_iinc (lv' := [(8, .int x16), (0, .ref (a 0)), (1, .int l1), (2, .int l2), (4, .int l4), (5, .int l5), (6, .int l6), (7, .int l7)]) (d := (1 : Int32)) F dX4_chance_90 rfl 7 rfl (by decide) ex16.symm rfl ?_
    refine g_goto F dX4_chance_93 (tgt := 66) (by decide) ?_
    exact (g_sub [1, 2, 3, 4, 5, 6, 7, 0] rfl h)
  replace h := h.2 c15
  obtain ⟨x17, ex17⟩ : ∃ q : Int32, q = l7 + (1 : Int32) := ⟨_, rfl⟩
  replace h := h x17 ex17
  refine g_iinc (lv' := [(7, .int x17), (0, .ref (a 0)), (1, .int l1), (2, .int l2), (4, .int l4), (5, .int l5), (6, .int l6), (8, .int l8)]) (d := (1 : Int32)) F dX4_chance_87 rfl 6 rfl (by decide) ex17.symm rfl ?_
  obtain ⟨x18, ex18⟩ : ∃ q : Int32, q = l8 + (1 : Int32) := ⟨_, rfl⟩
  replace h := h x18 ex18
  refine g_iinc (lv' := [(8, .int x18), (7, .int x17), (0, .ref (a 0)), (1, .int l1), (2, .int l2), (4, .int l4), (5, .int l5), (6, .int l6)]) (d := (1 : Int32)) F dX4_chance_90 rfl 7 rfl (by decide) ex18.symm rfl ?_
  refine g_goto F dX4_chance_93 (tgt := 66) (by decide) ?_
  exact (g_sub [2, 3, 4, 5, 6, 7, 1, 0] rfl h)
set_option maxRecDepth 20000 in
theorem ctX4_chance (l : Launch) (g : kG) (A : Nat → Prop) (a : Nat → Nat) (tx : List kTxt) (E : va_W) (hx : ∀ T ∈ tx, xIn g E T) {l1 : Int32} {l2 : Int32} {l3 : Int32} {l4 : Int32} {σ : kS} {Q : Int64 → kS → Prop} (h : wX4_chance tx l1 l2 l3 l4 σ Q) : kCt l yX4_chance cX4_chance 9 (some .long) 6 198 0 0 g A [.ref (a 0), .int l1, .int l2, .int l3, .int l4] (xW g a tx E σ) (kPl (xW g a tx E) Q) := by
  refine kCt.of (lv0 := [(0, .ref (a 0)), (1, .int l1), (2, .int l2), (3, .int l3), (4, .int l4)]) (by decide +kernel) (Nat.le_of_ble_eq_true rfl) rfl (fun z hl hg hA F R => ?_)
  subst hl hg hA
  have F : kF z cX4_chance RX4 9 { frames := 6, cells := 0, slots := 0, locals := 198 } := F
  unfold wX4_chance at h
  refine g_iload_n F dX4_chance_0 2 rfl ?_
  refine g_iconst (v := (1 : Int32)) F dX4_chance_1 (by decide) ?_
  refine g_icmp_lt F dX4_chance_2 (tgt := 22) (by decide) (fun c1 => ?_) (fun c1 => ?_)
  · replace h := h.1 c1
    refine g_ldc2 (v := (-4611686018427387904 : Int64)) F dX4_chance_22 wq739 ?_
    exact g_lret F R rfl rfl dX4_chance_25 ⟨_, _, rfl, rfl, h⟩
  replace h := h.2 c1
  refine g_iload_n F dX4_chance_5 2 rfl ?_
  refine g_bipush (v := (20 : Int32)) F dX4_chance_6 (by decide) ?_
  refine g_icmp_gt F dX4_chance_8 (tgt := 22) (by decide) (fun c2 => ?_) (fun c2 => ?_)
  · replace h := h.1 c2
    refine g_ldc2 (v := (-4611686018427387904 : Int64)) F dX4_chance_22 wq739 ?_
    exact g_lret F R rfl rfl dX4_chance_25 ⟨_, _, rfl, rfl, h⟩
  replace h := h.2 c2
  refine g_iload F dX4_chance_11 4 rfl ?_
  refine g_if_lt F dX4_chance_13 (tgt := 22) (by decide) (fun c3 => ?_) (fun c3 => ?_)
  · replace h := h.1 c3
    refine g_ldc2 (v := (-4611686018427387904 : Int64)) F dX4_chance_22 wq739 ?_
    exact g_lret F R rfl rfl dX4_chance_25 ⟨_, _, rfl, rfl, h⟩
  replace h := h.2 c3
  refine g_iload F dX4_chance_16 4 rfl ?_
  refine g_iconst (v := (1 : Int32)) F dX4_chance_18 (by decide) ?_
  refine g_icmp_le F dX4_chance_19 (tgt := 26) (by decide) (fun c4 => ?_) (fun c4 => ?_)
  · replace h := h.1 c4
    refine g_iload_n F dX4_chance_26 3 rfl ?_
    refine g_bipush (v := (100 : Int32)) F dX4_chance_27 (by decide) ?_
    refine g_idiv F dX4_chance_29 (by decide) ?_
    refine g_topi (fun x5 ex5 => ?_)
    replace h := h x5 ex5
    refine g_istore (lv' := [(5, .int x5), (0, .ref (a 0)), (1, .int l1), (2, .int l2), (3, .int l3), (4, .int l4)]) F dX4_chance_30 rfl rfl ?_
    refine g_iload_n F dX4_chance_32 4 rfl ?_
    refine g_bipush (v := (100 : Int32)) F dX4_chance_33 (by decide) ?_
    refine g_irem F dX4_chance_35 (by decide) ?_
    refine g_topi (fun x6 ex6 => ?_)
    replace h := h x6 ex6
    refine g_istore (lv' := [(6, .int x6), (5, .int x5), (0, .ref (a 0)), (1, .int l1), (2, .int l2), (3, .int l3), (4, .int l4)]) F dX4_chance_36 rfl rfl ?_
    refine g_iload_n F dX4_chance_38 5 rfl ?_
    refine g_if_lt F dX4_chance_39 (tgt := 56) (by decide) (fun c7 => ?_) (fun c7 => ?_)
    · replace h := h.1 c7
      refine g_ldc2 (v := (-4611686018427387904 : Int64)) F dX4_chance_56 wq739 ?_
      exact g_lret F R rfl rfl dX4_chance_59 ⟨_, _, rfl, rfl, h⟩
    replace h := h.2 c7
    refine g_iload F dX4_chance_42 1 rfl ?_
    refine g_bipush (v := (30 : Int32)) F dX4_chance_44 (by decide) ?_
    refine g_icmp_gt F dX4_chance_46 (tgt := 56) (by decide) (fun c8 => ?_) (fun c8 => ?_)
    · replace h := h.1 c8
      refine g_ldc2 (v := (-4611686018427387904 : Int64)) F dX4_chance_56 wq739 ?_
      exact g_lret F R rfl rfl dX4_chance_59 ⟨_, _, rfl, rfl, h⟩
    replace h := h.2 c8
    refine g_iload F dX4_chance_49 0 rfl ?_
    refine g_bipush (v := (12 : Int32)) F dX4_chance_51 (by decide) ?_
    refine g_icmp_le F dX4_chance_53 (tgt := 60) (by decide) (fun c9 => ?_) (fun c9 => ?_)
    · replace h := h.1 c9
      refine g_iconst (v := (0 : Int32)) F dX4_chance_60 (by decide) ?_
      refine g_istore (lv' := [(7, .int (0 : Int32)), (6, .int x6), (5, .int x5), (0, .ref (a 0)), (1, .int l1), (2, .int l2), (3, .int l3), (4, .int l4)]) F dX4_chance_61 rfl rfl ?_
      refine g_iconst (v := (0 : Int32)) F dX4_chance_63 (by decide) ?_
      refine g_istore (lv' := [(8, .int (0 : Int32)), (7, .int (0 : Int32)), (6, .int x6), (5, .int x5), (0, .ref (a 0)), (1, .int l1), (2, .int l2), (3, .int l3), (4, .int l4)]) F dX4_chance_64 rfl rfl ?_
      exact g_sub [4, 5, 6, 8, 3, 2, 1, 0] rfl (sX4_chance_66 F R hx h)
    replace h := h.2 c9
    refine g_ldc2 (v := (-4611686018427387904 : Int64)) F dX4_chance_56 wq739 ?_
    exact g_lret F R rfl rfl dX4_chance_59 ⟨_, _, rfl, rfl, h⟩
  replace h := h.2 c4
  refine g_ldc2 (v := (-4611686018427387904 : Int64)) F dX4_chance_22 wq739 ?_
  exact g_lret F R rfl rfl dX4_chance_25 ⟨_, _, rfl, rfl, h⟩
set_option maxRecDepth 20000 in
theorem ctX4_image (l : Launch) (g : kG) (A : Nat → Prop) (a : Nat → Nat) (tx : List kTxt) (E : va_W) {σ : kS} {Q : Int32 → kS → Prop} (h : wX4_image σ Q) : kCt l yX4_image cX4_image 1 (some .int) 2 101 0 0 g A [.ref (a 0)] (xW g a tx E σ) (kPi (xW g a tx E) Q) := by
  refine kCt.of (lv0 := [(0, .ref (a 0))]) (by decide +kernel) (Nat.le_of_ble_eq_true rfl) rfl (fun z hl hg hA F R => ?_)
  subst hl hg hA
  have F : kF z cX4_image RX4 1 { frames := 2, cells := 0, slots := 0, locals := 101 } := F
  unfold wX4_image at h
  refine g_aload_n F dX4_image_0 0 rfl ?_
  refine rgX4_X4_kept F dX4_image_1 ?_
  refine g_aload_n F dX4_image_4 0 rfl ?_
  refine rgX4_X4_now F dX4_image_5 ?_
  refine rX4_X0_take F fen21 fen3 dX4_image_8 rfl h (fun s1 h => ?_)
  refine g_aload_n F dX4_image_11 0 rfl ?_
  refine g_iconst (v := (1 : Int32)) F dX4_image_12 (by decide) ?_
  refine rpX4_X4_isKept F (by decide) dX4_image_13 ?_
  refine g_name (wf := xW (zg z) a tx E) (fun s2 es2 => ?_)
  replace h := h s2 es2
  refine g_aload_n F dX4_image_16 0 rfl ?_
  refine rgX4_X4_now F dX4_image_17 ?_
  refine rgX4_X0_works fen3 F dX4_image_20 ?_
  exact g_iret F R rfl rfl dX4_image_23 ⟨_, _, rfl, rfl, h⟩
set_option maxRecDepth 20000 in
theorem ctX4_back (l : Launch) (g : kG) (A : Nat → Prop) (a : Nat → Nat) (tx : List kTxt) (E : va_W) {σ : kS} {Q : Int32 → kS → Prop} (h : wX4_back σ Q) : kCt l yX4_back cX4_back 1 (some .int) 2 101 0 0 g A [.ref (a 0)] (xW g a tx E σ) (kPi (xW g a tx E) Q) := by
  refine kCt.of (lv0 := [(0, .ref (a 0))]) (by decide +kernel) (Nat.le_of_ble_eq_true rfl) rfl (fun z hl hg hA F R => ?_)
  subst hl hg hA
  have F : kF z cX4_back RX4 1 { frames := 2, cells := 0, slots := 0, locals := 101 } := F
  unfold wX4_back at h
  refine g_aload_n F dX4_back_0 0 rfl ?_
  refine rgX4_X4_isKept F dX4_back_1 ?_
  refine g_if_ne F dX4_back_4 (tgt := 10) (by decide) (fun c1 => ?_) (fun c1 => ?_)
  · replace h := h.1 c1
    refine g_aload_n F dX4_back_10 0 rfl ?_
    refine rgX4_X4_now F dX4_back_11 ?_
    refine g_aload_n F dX4_back_14 0 rfl ?_
    refine rgX4_X4_kept F dX4_back_15 ?_
    refine rX4_X0_take F fen3 fen21 dX4_back_18 rfl h (fun s2 h => ?_)
    refine g_aload_n F dX4_back_21 0 rfl ?_
    refine rgX4_X4_now F dX4_back_22 ?_
    refine rgX4_X0_works fen3 F dX4_back_25 ?_
    exact g_iret F R rfl rfl dX4_back_28 ⟨_, _, rfl, rfl, h⟩
  replace h := h.2 c1
  refine g_bipush (v := (-3 : Int32)) F dX4_back_7 (by decide) ?_
  exact g_iret F R rfl rfl dX4_back_9 ⟨_, _, rfl, rfl, h⟩
theorem plX0_goingWorks : kPlain yX0_goingWorks 0 = true := by decide +kernel
theorem rX4_X0_goingWorks {z : kZ} {cc : ByteArray} {nL : Nat} {rm : Room} {c n pc : Nat} {lv : List (Nat × Value)} {st : List Value} {a : Nat → Nat} {tx : List kTxt} {E : va_W} {σ : kS} {b : Nat} {Q : Int32 → kS → Prop} (F : kF z cc RX4 nL rm) (hb : isFen b) (hd : decode cc pc = .ok (.invokevirtual 215, 3)) (hf : kFits rm 1 61 0 0 3 c n st = true) (h : wX0_goingWorks b σ Q) (k : ∀ (v : Int32) (σ' : kS), Q v σ' → kV z (xW (zg z) a tx E σ') c n (pc + 3) lv (.int v :: st)) : kV z (xW (zg z) a tx E σ) c n pc lv (.ref (a b) :: st) := by
  exact g_callV F (av := []) (ctX0_goingWorks _ _ _ a tx E hb h) (ci := 0) (q0 := b) rfl (xFen_at hb) rfl wq755 wq756 wq757 wq110 wq758 plX0_goingWorks hd hf (fun r ws' hq => by
    obtain ⟨v, σ', rfl, rfl, hq⟩ := hq
    exact k v σ' hq)
set_option maxRecDepth 20000 in
theorem ctX4_count (l : Launch) (g : kG) (A : Nat → Prop) (a : Nat → Nat) (tx : List kTxt) (E : va_W) {l1 : Int32} {σ : kS} {Q : Int32 → kS → Prop} (h : wX4_count l1 σ Q) : kCt l yX4_count cX4_count 2 (some .int) 2 83 0 0 g A [.ref (a 0), .int l1] (xW g a tx E σ) (kPi (xW g a tx E) Q) := by
  refine kCt.of (lv0 := [(0, .ref (a 0)), (1, .int l1)]) (by decide +kernel) (Nat.le_of_ble_eq_true rfl) rfl (fun z hl hg hA F R => ?_)
  subst hl hg hA
  have F : kF z cX4_count RX4 2 { frames := 2, cells := 0, slots := 0, locals := 83 } := F
  unfold wX4_count at h
  refine g_iload_n F dX4_count_0 1 rfl ?_
  by_cases c1 : l1 = (0 : Int32)
  · replace h := h.1 c1
    refine g_tableIn F dX4_count_1 (0 : Int32) c1 (off := 47) (tgt := 48) (by decide) (by decide) ?_
    refine g_aload_n F dX4_count_48 0 rfl ?_
    refine rgX4_X4_now F dX4_count_49 ?_
    refine rgX4_X0_works fen3 F dX4_count_52 ?_
    exact g_iret F R rfl rfl dX4_count_55 ⟨_, _, rfl, rfl, h⟩
  replace h := h.2
  by_cases c2 : l1 = (1 : Int32)
  · replace h := h.1 c2
    refine g_tableIn F dX4_count_1 (1 : Int32) c2 (off := 55) (tgt := 56) (by decide) (by decide) ?_
    refine g_aload_n F dX4_count_56 0 rfl ?_
    refine rgX4_X4_now F dX4_count_57 ?_
    refine rX4_X0_goingWorks F fen3 dX4_count_60 rfl h (fun r4 s3 h => ?_)
    exact g_iret F R rfl rfl dX4_count_63 ⟨_, _, rfl, rfl, h⟩
  replace h := h.2
  by_cases c5 : l1 = (2 : Int32)
  · replace h := h.1 c5
    refine g_tableIn F dX4_count_1 (2 : Int32) c5 (off := 63) (tgt := 64) (by decide) (by decide) ?_
    refine g_aload_n F dX4_count_64 0 rfl ?_
    refine rgX4_X4_now F dX4_count_65 ?_
    refine rX4_X0_dryCells F fen3 dX4_count_68 rfl h (fun r7 s6 h => ?_)
    refine rX4_J6_bitCount F dX4_count_71 rfl h (fun r8 h => ?_)
    exact g_iret F R rfl rfl dX4_count_74 ⟨_, _, rfl, rfl, h⟩
  replace h := h.2
  by_cases c9 : l1 = (3 : Int32)
  · replace h := h.1 c9
    refine g_tableIn F dX4_count_1 (3 : Int32) c9 (off := 74) (tgt := 75) (by decide) (by decide) ?_
    refine g_aload_n F dX4_count_75 0 rfl ?_
    refine rgX4_X4_now F dX4_count_76 ?_
    refine rgX4_X0_year fen3 F dX4_count_79 ?_
    exact g_iret F R rfl rfl dX4_count_82 ⟨_, _, rfl, rfl, h⟩
  replace h := h.2
  by_cases c10 : l1 = (4 : Int32)
  · replace h := h.1 c10
    refine g_tableIn F dX4_count_1 (4 : Int32) c10 (off := 82) (tgt := 83) (by decide) (by decide) ?_
    refine g_aload_n F dX4_count_83 0 rfl ?_
    refine rgX4_X4_now F dX4_count_84 ?_
    refine rgX4_X0_paid fen3 F dX4_count_87 ?_
    exact g_iret F R rfl rfl dX4_count_90 ⟨_, _, rfl, rfl, h⟩
  replace h := h.2
  by_cases c11 : l1 = (5 : Int32)
  · replace h := h.1 c11
    refine g_tableIn F dX4_count_1 (5 : Int32) c11 (off := 90) (tgt := 91) (by decide) (by decide) ?_
    refine g_aload_n F dX4_count_91 0 rfl ?_
    refine rgX4_X4_textCount F dX4_count_92 ?_
    exact g_iret F R rfl rfl dX4_count_95 ⟨_, _, rfl, rfl, h⟩
  replace h := h.2
  by_cases c12 : l1 = (6 : Int32)
  · replace h := h.1 c12
    refine g_tableIn F dX4_count_1 (6 : Int32) c12 (off := 95) (tgt := 96) (by decide) (by decide) ?_
    refine g_aload_n F dX4_count_96 0 rfl ?_
    refine rgX4_X4_reader F dX4_count_97 ?_
    refine rX4_X1_size F dX4_count_100 rfl h (fun r14 s13 h => ?_)
    exact g_iret F R rfl rfl dX4_count_103 ⟨_, _, rfl, rfl, h⟩
  replace h := h.2
  by_cases c15 : l1 = (7 : Int32)
  · replace h := h.1 c15
    refine g_tableIn F dX4_count_1 (7 : Int32) c15 (off := 103) (tgt := 104) (by decide) (by decide) ?_
    refine g_aload_n F dX4_count_104 0 rfl ?_
    refine rgX4_X4_now F dX4_count_105 ?_
    refine rgX4_X0_rule fen3 F dX4_count_108 ?_
    exact g_iret F R rfl rfl dX4_count_111 ⟨_, _, rfl, rfl, h⟩
  replace h := h.2
  replace h := h c1 c2 c5 c9 c10 c11 c12 c15
  refine g_tableOut F dX4_count_1 8 (by decide) (lt_s (lt_s (lt_s (lt_s (lt_s (lt_s (lt_s (lt_s (lt_0) c1) c2) c5) c9) c10) c11) c12) c15) (tgt := 112) (by decide) ?_
  refine g_bipush (v := (-2 : Int32)) F dX4_count_112 (by decide) ?_
  exact g_iret F R rfl rfl dX4_count_114 ⟨_, _, rfl, rfl, h⟩
theorem plX2_drop : kPlain yX2_drop 1 = true := by decide +kernel
theorem rX4_X2_drop {z : kZ} {cc : ByteArray} {nL : Nat} {rm : Room} {c n pc : Nat} {lv : List (Nat × Value)} {st : List Value} {a : Nat → Nat} {tx : List kTxt} {E : va_W} {σ : kS} {l1 : Int32} {Q : kS → Prop} (F : kF z cc RX4 nL rm) (hd : decode cc pc = .ok (.invokevirtual 218, 3)) (hf : kFits rm 1 61 0 0 2 c n st = true) (h : wX2_drop l1 σ Q) (k : ∀ σ' : kS, Q σ' → kV z (xW (zg z) a tx E σ') c n (pc + 3) lv st) : kV z (xW (zg z) a tx E σ) c n pc lv (.int l1 :: .ref (a 33) :: st) := by
  exact g_callV F (av := [.int l1]) (ctX2_drop _ _ _ a tx E h) (ci := 2) (q0 := 33) rfl rfl rfl wq763 wq764 wq765 wq113 wq766 plX2_drop hd hf (fun r ws' hq => by
    obtain ⟨σ', rfl, rfl, hq⟩ := hq
    exact k σ' hq)
set_option maxRecDepth 20000 in
theorem ctX4_sheet (l : Launch) (g : kG) (A : Nat → Prop) (a : Nat → Nat) (tx : List kTxt) (E : va_W) {l1 : Int32} {l2 : Int32} {l3 : Int32} {σ : kS} {Q : Int32 → kS → Prop} (h : wX4_sheet l1 l2 l3 σ Q) : kCt l yX4_sheet cX4_sheet 4 (some .int) 2 85 0 0 g A [.ref (a 0), .int l1, .int l2, .int l3] (xW g a tx E σ) (kPi (xW g a tx E) Q) := by
  refine kCt.of (lv0 := [(0, .ref (a 0)), (1, .int l1), (2, .int l2), (3, .int l3)]) (by decide +kernel) (Nat.le_of_ble_eq_true rfl) rfl (fun z hl hg hA F R => ?_)
  subst hl hg hA
  have F : kF z cX4_sheet RX4 4 { frames := 2, cells := 0, slots := 0, locals := 85 } := F
  unfold wX4_sheet at h
  refine g_aload_n F dX4_sheet_0 0 rfl ?_
  refine rgX4_X4_sheets F dX4_sheet_1 ?_
  refine g_iload_n F dX4_sheet_4 1 rfl ?_
  refine rX4_X2_has F dX4_sheet_5 rfl h (fun r2 s1 h => ?_)
  refine g_if_eq F dX4_sheet_8 (tgt := 21) (by decide) (fun c3 => ?_) (fun c3 => ?_)
  · replace h := h.1 c3
    refine g_bipush (v := (-2 : Int32)) F dX4_sheet_21 (by decide) ?_
    exact g_iret F R rfl rfl dX4_sheet_23 ⟨_, _, rfl, rfl, h⟩
  replace h := h.2 c3
  refine g_iload_n F dX4_sheet_11 2 rfl ?_
  refine g_iconst (v := (-1 : Int32)) F dX4_sheet_12 (by decide) ?_
  refine g_icmp_lt F dX4_sheet_13 (tgt := 21) (by decide) (fun c4 => ?_) (fun c4 => ?_)
  · replace h := h.1 c4
    refine g_bipush (v := (-2 : Int32)) F dX4_sheet_21 (by decide) ?_
    exact g_iret F R rfl rfl dX4_sheet_23 ⟨_, _, rfl, rfl, h⟩
  replace h := h.2 c4
  refine g_iload_n F dX4_sheet_16 2 rfl ?_
  refine g_iconst (v := (3 : Int32)) F dX4_sheet_17 (by decide) ?_
  refine g_icmp_lt F dX4_sheet_18 (tgt := 24) (by decide) (fun c5 => ?_) (fun c5 => ?_)
  · replace h := h.1 c5
    refine g_iload_n F dX4_sheet_24 2 rfl ?_
    refine g_iconst (v := (-1 : Int32)) F dX4_sheet_25 (by decide) ?_
    refine g_icmp_ne F dX4_sheet_26 (tgt := 39) (by decide) (fun c6 => ?_) (fun c6 => ?_)
    · replace h := h.1 c6
      refine g_iload_n F dX4_sheet_39 3 rfl ?_
      refine g_bipush (v := (40 : Int32)) F dX4_sheet_40 (by decide) ?_
      refine g_icmp_le F dX4_sheet_42 (tgt := 48) (by decide) (fun c7 => ?_) (fun c7 => ?_)
      · replace h := h.1 c7
        refine g_iload_n F dX4_sheet_48 3 rfl ?_
        refine g_if_ge F dX4_sheet_49 (tgt := 55) (by decide) (fun c8 => ?_) (fun c8 => ?_)
        · replace h := h.1 c8
          refine g_aload_n F dX4_sheet_55 0 rfl ?_
          refine rgX4_X4_sheets F dX4_sheet_56 ?_
          refine g_iload_n F dX4_sheet_59 1 rfl ?_
          refine g_iload_n F dX4_sheet_60 2 rfl ?_
          refine g_iload_n F dX4_sheet_61 3 rfl ?_
          refine rX4_X2_make F dX4_sheet_62 rfl h (fun s9 h => ?_)
          refine g_iconst (v := (1 : Int32)) F dX4_sheet_65 (by decide) ?_
          exact g_iret F R rfl rfl dX4_sheet_66 ⟨_, _, rfl, rfl, h⟩
        replace h := h.2 c8
        refine g_bipush (v := (-14 : Int32)) F dX4_sheet_52 (by decide) ?_
        exact g_iret F R rfl rfl dX4_sheet_54 ⟨_, _, rfl, rfl, h⟩
      replace h := h.2 c7
      refine g_bipush (v := (-2 : Int32)) F dX4_sheet_45 (by decide) ?_
      exact g_iret F R rfl rfl dX4_sheet_47 ⟨_, _, rfl, rfl, h⟩
    replace h := h.2 c6
    refine g_aload_n F dX4_sheet_29 0 rfl ?_
    refine rgX4_X4_sheets F dX4_sheet_30 ?_
    refine g_iload_n F dX4_sheet_33 1 rfl ?_
    refine rX4_X2_drop F dX4_sheet_34 rfl h (fun s10 h => ?_)
    refine g_iconst (v := (1 : Int32)) F dX4_sheet_37 (by decide) ?_
    exact g_iret F R rfl rfl dX4_sheet_38 ⟨_, _, rfl, rfl, h⟩
  replace h := h.2 c5
  refine g_bipush (v := (-2 : Int32)) F dX4_sheet_21 (by decide) ?_
  exact g_iret F R rfl rfl dX4_sheet_23 ⟨_, _, rfl, rfl, h⟩
theorem rX4_X2_hasItem {z : kZ} {cc : ByteArray} {nL : Nat} {rm : Room} {c n pc : Nat} {lv : List (Nat × Value)} {st : List Value} {a : Nat → Nat} {tx : List kTxt} {E : va_W} {σ : kS} {l1 : Int32} {l2 : Int32} {Q : Int32 → kS → Prop} (F : kF z cc RX4 nL rm) (hd : decode cc pc = .ok (.invokevirtual 221, 3)) (hf : kFits rm 2 82 0 0 3 c n st = true) (h : wX2_hasItem l1 l2 σ Q) (k : ∀ (v : Int32) (σ' : kS), Q v σ' → kV z (xW (zg z) a tx E σ') c n (pc + 3) lv (.int v :: st)) : kV z (xW (zg z) a tx E σ) c n pc lv (.int l2 :: .int l1 :: .ref (a 33) :: st) := by
  exact g_callV F (av := [.int l1, .int l2]) (ctX2_hasItem _ _ _ a tx E h) (ci := 2) (q0 := 33) rfl rfl rfl wq771 wq688 wq689 wq113 wq690 plX2_hasItem hd hf (fun r ws' hq => by
    obtain ⟨v, σ', rfl, rfl, hq⟩ := hq
    exact k v σ' hq)
set_option maxRecDepth 20000 in
theorem ctX4_cell (l : Launch) (g : kG) (A : Nat → Prop) (a : Nat → Nat) (tx : List kTxt) (E : va_W) {l1 : Int32} {l2 : Int32} {l3 : Int32} {σ : kS} {Q : Int32 → kS → Prop} (h : wX4_cell l1 l2 l3 σ Q) : kCt l yX4_cell cX4_cell 4 (some .int) 4 127 0 0 g A [.ref (a 0), .int l1, .int l2, .int l3] (xW g a tx E σ) (kPi (xW g a tx E) Q) := by
  refine kCt.of (lv0 := [(0, .ref (a 0)), (1, .int l1), (2, .int l2), (3, .int l3)]) (by decide +kernel) (Nat.le_of_ble_eq_true rfl) rfl (fun z hl hg hA F R => ?_)
  subst hl hg hA
  have F : kF z cX4_cell RX4 4 { frames := 4, cells := 0, slots := 0, locals := 127 } := F
  unfold wX4_cell at h
  refine g_aload_n F dX4_cell_0 0 rfl ?_
  refine rgX4_X4_sheets F dX4_cell_1 ?_
  refine g_iload_n F dX4_cell_4 1 rfl ?_
  refine rX4_X2_has F dX4_cell_5 rfl h (fun r2 s1 h => ?_)
  refine g_if_ne F dX4_cell_8 (tgt := 14) (by decide) (fun c3 => ?_) (fun c3 => ?_)
  · replace h := h.1 c3
    refine g_aload_n F dX4_cell_14 0 rfl ?_
    refine rgX4_X4_sheets F dX4_cell_15 ?_
    refine g_iload_n F dX4_cell_18 1 rfl ?_
    refine rX4_X2_isMissing F dX4_cell_19 rfl h (fun r5 s4 h => ?_)
    refine g_if_eq F dX4_cell_22 (tgt := 28) (by decide) (fun c6 => ?_) (fun c6 => ?_)
    · replace h := h.1 c6
      refine g_aload_n F dX4_cell_28 0 rfl ?_
      refine rgX4_X4_sheets F dX4_cell_29 ?_
      refine g_iload_n F dX4_cell_32 1 rfl ?_
      refine g_iload_n F dX4_cell_33 2 rfl ?_
      refine rX4_X2_hasItem F dX4_cell_34 rfl h (fun r8 s7 h => ?_)
      refine g_if_ne F dX4_cell_37 (tgt := 43) (by decide) (fun c9 => ?_) (fun c9 => ?_)
      · replace h := h.1 c9
        refine g_aload_n F dX4_cell_43 0 rfl ?_
        refine rgX4_X4_sheets F dX4_cell_44 ?_
        refine g_iload_n F dX4_cell_47 1 rfl ?_
        refine g_iload_n F dX4_cell_48 2 rfl ?_
        refine g_iload_n F dX4_cell_49 3 rfl ?_
        refine rX4_X2_put F dX4_cell_50 rfl h (fun s10 h => ?_)
        refine g_iconst (v := (1 : Int32)) F dX4_cell_53 (by decide) ?_
        exact g_iret F R rfl rfl dX4_cell_54 ⟨_, _, rfl, rfl, h⟩
      replace h := h.2 c9
      refine g_bipush (v := (-12 : Int32)) F dX4_cell_40 (by decide) ?_
      exact g_iret F R rfl rfl dX4_cell_42 ⟨_, _, rfl, rfl, h⟩
    replace h := h.2 c6
    refine g_bipush (v := (-11 : Int32)) F dX4_cell_25 (by decide) ?_
    exact g_iret F R rfl rfl dX4_cell_27 ⟨_, _, rfl, rfl, h⟩
  replace h := h.2 c3
  refine g_bipush (v := (-2 : Int32)) F dX4_cell_11 (by decide) ?_
  exact g_iret F R rfl rfl dX4_cell_13 ⟨_, _, rfl, rfl, h⟩
theorem plX2_sort : kPlain yX2_sort 1 = true := by decide +kernel
theorem rX4_X2_sort {z : kZ} {cc : ByteArray} {nL : Nat} {rm : Room} {c n pc : Nat} {lv : List (Nat × Value)} {st : List Value} {a : Nat → Nat} {tx : List kTxt} {E : va_W} {σ : kS} {l1 : Int32} {Q : Int32 → kS → Prop} (F : kF z cc RX4 nL rm) (hd : decode cc pc = .ok (.invokevirtual 224, 3)) (hf : kFits rm 1 61 0 0 2 c n st = true) (h : wX2_sort l1 σ Q) (k : ∀ (v : Int32) (σ' : kS), Q v σ' → kV z (xW (zg z) a tx E σ') c n (pc + 3) lv (.int v :: st)) : kV z (xW (zg z) a tx E σ) c n pc lv (.int l1 :: .ref (a 33) :: st) := by
  exact g_callV F (av := [.int l1]) (ctX2_sort _ _ _ a tx E h) (ci := 2) (q0 := 33) rfl rfl rfl wq776 wq777 wq778 wq113 wq779 plX2_sort hd hf (fun r ws' hq => by
    obtain ⟨v, σ', rfl, rfl, hq⟩ := hq
    exact k v σ' hq)
theorem rX4_X2_hasItems {z : kZ} {cc : ByteArray} {nL : Nat} {rm : Room} {c n pc : Nat} {lv : List (Nat × Value)} {st : List Value} {a : Nat → Nat} {tx : List kTxt} {E : va_W} {σ : kS} {l1 : Int32} {l2 : Int32} {l3 : Int32} {Q : Int32 → kS → Prop} (F : kF z cc RX4 nL rm) (hd : decode cc pc = .ok (.invokevirtual 227, 3)) (hf : kFits rm 2 82 0 0 4 c n st = true) (h : wX2_hasItems l1 l2 l3 σ Q) (k : ∀ (v : Int32) (σ' : kS), Q v σ' → kV z (xW (zg z) a tx E σ') c n (pc + 3) lv (.int v :: st)) : kV z (xW (zg z) a tx E σ) c n pc lv (.int l3 :: .int l2 :: .int l1 :: .ref (a 33) :: st) := by
  exact g_callV F (av := [.int l1, .int l2, .int l3]) (ctX2_hasItems _ _ _ a tx E h) (ci := 2) (q0 := 33) rfl rfl rfl wq780 wq781 wq782 wq113 wq783 plX2_hasItems hd hf (fun r ws' hq => by
    obtain ⟨v, σ', rfl, rfl, hq⟩ := hq
    exact k v σ' hq)
theorem plX2_move : kPlain yX2_move 5 = true := by decide +kernel
theorem rX4_X2_move {z : kZ} {cc : ByteArray} {nL : Nat} {rm : Room} {c n pc : Nat} {lv : List (Nat × Value)} {st : List Value} {a : Nat → Nat} {tx : List kTxt} {E : va_W} {σ : kS} {l1 : Int32} {l2 : Int32} {l3 : Int32} {l4 : Int32} {l5 : Int32} {Q : kS → Prop} (F : kF z cc RX4 nL rm) (hd : decode cc pc = .ok (.invokevirtual 230, 3)) (hf : kFits rm 3 105 0 0 6 c n st = true) (h : wX2_move l1 l2 l3 l4 l5 σ Q) (k : ∀ σ' : kS, Q σ' → kV z (xW (zg z) a tx E σ') c n (pc + 3) lv st) : kV z (xW (zg z) a tx E σ) c n pc lv (.int l5 :: .int l4 :: .int l3 :: .int l2 :: .int l1 :: .ref (a 33) :: st) := by
  exact g_callV F (av := [.int l1, .int l2, .int l3, .int l4, .int l5]) (ctX2_move _ _ _ a tx E h) (ci := 2) (q0 := 33) rfl rfl rfl wq784 wq785 wq786 wq113 wq787 plX2_move hd hf (fun r ws' hq => by
    obtain ⟨σ', rfl, rfl, hq⟩ := hq
    exact k σ' hq)
set_option maxRecDepth 20000 in
theorem ctX4_copy (l : Launch) (g : kG) (A : Nat → Prop) (a : Nat → Nat) (tx : List kTxt) (E : va_W) {l1 : Int32} {l2 : Int32} {l3 : Int32} {l4 : Int32} {l5 : Int32} {σ : kS} {Q : Int32 → kS → Prop} (h : wX4_copy l1 l2 l3 l4 l5 σ Q) : kCt l yX4_copy cX4_copy 6 (some .int) 4 130 0 0 g A [.ref (a 0), .int l1, .int l2, .int l3, .int l4, .int l5] (xW g a tx E σ) (kPi (xW g a tx E) Q) := by
  refine kCt.of (lv0 := [(0, .ref (a 0)), (1, .int l1), (2, .int l2), (3, .int l3), (4, .int l4), (5, .int l5)]) (by decide +kernel) (Nat.le_of_ble_eq_true rfl) rfl (fun z hl hg hA F R => ?_)
  subst hl hg hA
  have F : kF z cX4_copy RX4 6 { frames := 4, cells := 0, slots := 0, locals := 130 } := F
  unfold wX4_copy at h
  refine g_aload_n F dX4_copy_0 0 rfl ?_
  refine rgX4_X4_sheets F dX4_copy_1 ?_
  refine g_iload_n F dX4_copy_4 1 rfl ?_
  refine rX4_X2_has F dX4_copy_5 rfl h (fun r2 s1 h => ?_)
  refine g_if_eq F dX4_copy_8 (tgt := 22) (by decide) (fun c3 => ?_) (fun c3 => ?_)
  · replace h := h.1 c3
    refine g_bipush (v := (-2 : Int32)) F dX4_copy_22 (by decide) ?_
    exact g_iret F R rfl rfl dX4_copy_24 ⟨_, _, rfl, rfl, h⟩
  replace h := h.2 c3
  refine g_aload_n F dX4_copy_11 0 rfl ?_
  refine rgX4_X4_sheets F dX4_copy_12 ?_
  refine g_iload_n F dX4_copy_15 3 rfl ?_
  refine rX4_X2_has F dX4_copy_16 rfl h (fun r5 s4 h => ?_)
  refine g_if_ne F dX4_copy_19 (tgt := 25) (by decide) (fun c6 => ?_) (fun c6 => ?_)
  · replace h := h.1 c6
    refine g_aload_n F dX4_copy_25 0 rfl ?_
    refine rgX4_X4_sheets F dX4_copy_26 ?_
    refine g_iload_n F dX4_copy_29 1 rfl ?_
    refine rX4_X2_isMissing F dX4_copy_30 rfl h (fun r8 s7 h => ?_)
    refine g_if_ne F dX4_copy_33 (tgt := 47) (by decide) (fun c9 => ?_) (fun c9 => ?_)
    · replace h := h.1 c9
      refine g_bipush (v := (-11 : Int32)) F dX4_copy_47 (by decide) ?_
      exact g_iret F R rfl rfl dX4_copy_49 ⟨_, _, rfl, rfl, h⟩
    replace h := h.2 c9
    refine g_aload_n F dX4_copy_36 0 rfl ?_
    refine rgX4_X4_sheets F dX4_copy_37 ?_
    refine g_iload_n F dX4_copy_40 3 rfl ?_
    refine rX4_X2_isMissing F dX4_copy_41 rfl h (fun r11 s10 h => ?_)
    refine g_if_eq F dX4_copy_44 (tgt := 50) (by decide) (fun c12 => ?_) (fun c12 => ?_)
    · replace h := h.1 c12
      refine g_aload_n F dX4_copy_50 0 rfl ?_
      refine rgX4_X4_sheets F dX4_copy_51 ?_
      refine g_iload_n F dX4_copy_54 1 rfl ?_
      refine rX4_X2_sort F dX4_copy_55 rfl h (fun r14 s13 h => ?_)
      refine g_aload_n F dX4_copy_58 0 rfl ?_
      refine rgX4_X4_sheets F dX4_copy_59 ?_
      refine g_iload_n F dX4_copy_62 3 rfl ?_
      refine rX4_X2_sort F dX4_copy_63 rfl h (fun r16 s15 h => ?_)
      refine g_icmp_eq F dX4_copy_66 (tgt := 72) (by decide) (fun c17 => ?_) (fun c17 => ?_)
      · replace h := h.1 c17
        refine g_aload_n F dX4_copy_72 0 rfl ?_
        refine rgX4_X4_sheets F dX4_copy_73 ?_
        refine g_iload_n F dX4_copy_76 1 rfl ?_
        refine g_iload_n F dX4_copy_77 2 rfl ?_
        refine g_iload F dX4_copy_78 5 rfl ?_
        refine rX4_X2_hasItems F dX4_copy_80 rfl h (fun r19 s18 h => ?_)
        refine g_if_eq F dX4_copy_83 (tgt := 101) (by decide) (fun c20 => ?_) (fun c20 => ?_)
        · replace h := h.1 c20
          refine g_bipush (v := (-12 : Int32)) F dX4_copy_101 (by decide) ?_
          exact g_iret F R rfl rfl dX4_copy_103 ⟨_, _, rfl, rfl, h⟩
        replace h := h.2 c20
        refine g_aload_n F dX4_copy_86 0 rfl ?_
        refine rgX4_X4_sheets F dX4_copy_87 ?_
        refine g_iload_n F dX4_copy_90 3 rfl ?_
        refine g_iload F dX4_copy_91 4 rfl ?_
        refine g_iload F dX4_copy_93 5 rfl ?_
        refine rX4_X2_hasItems F dX4_copy_95 rfl h (fun r22 s21 h => ?_)
        refine g_if_ne F dX4_copy_98 (tgt := 104) (by decide) (fun c23 => ?_) (fun c23 => ?_)
        · replace h := h.1 c23
          refine g_aload_n F dX4_copy_104 0 rfl ?_
          refine rgX4_X4_sheets F dX4_copy_105 ?_
          refine g_iload_n F dX4_copy_108 1 rfl ?_
          refine g_iload_n F dX4_copy_109 2 rfl ?_
          refine g_iload_n F dX4_copy_110 3 rfl ?_
          refine g_iload F dX4_copy_111 4 rfl ?_
          refine g_iload F dX4_copy_113 5 rfl ?_
          refine rX4_X2_move F dX4_copy_115 rfl h (fun s24 h => ?_)
          refine g_iload F dX4_copy_118 5 rfl ?_
          exact g_iret F R rfl rfl dX4_copy_120 ⟨_, _, rfl, rfl, h⟩
        replace h := h.2 c23
        refine g_bipush (v := (-12 : Int32)) F dX4_copy_101 (by decide) ?_
        exact g_iret F R rfl rfl dX4_copy_103 ⟨_, _, rfl, rfl, h⟩
      replace h := h.2 c17
      refine g_bipush (v := (-13 : Int32)) F dX4_copy_69 (by decide) ?_
      exact g_iret F R rfl rfl dX4_copy_71 ⟨_, _, rfl, rfl, h⟩
    replace h := h.2 c12
    refine g_bipush (v := (-11 : Int32)) F dX4_copy_47 (by decide) ?_
    exact g_iret F R rfl rfl dX4_copy_49 ⟨_, _, rfl, rfl, h⟩
  replace h := h.2 c6
  refine g_bipush (v := (-2 : Int32)) F dX4_copy_22 (by decide) ?_
  exact g_iret F R rfl rfl dX4_copy_24 ⟨_, _, rfl, rfl, h⟩
set_option maxRecDepth 20000 in
theorem ctX4_comes (l : Launch) (g : kG) (A : Nat → Prop) (a : Nat → Nat) (tx : List kTxt) (E : va_W) {l1 : Int32} {l2 : Int32} {σ : kS} {Q : Int32 → kS → Prop} (h : wX4_comes l1 l2 σ Q) : kCt l yX4_comes cX4_comes 6 (some .boolean) 4 126 0 0 g A [.ref (a 0), .int l1, .int l2] (xW g a tx E σ) (kPi (xW g a tx E) Q) := by
  refine kCt.of (lv0 := [(0, .ref (a 0)), (1, .int l1), (2, .int l2)]) (by decide +kernel) (Nat.le_of_ble_eq_true rfl) rfl (fun z hl hg hA F R => ?_)
  subst hl hg hA
  have F : kF z cX4_comes RX4 6 { frames := 4, cells := 0, slots := 0, locals := 126 } := F
  unfold wX4_comes at h
  refine g_aload_n F dX4_comes_0 0 rfl ?_
  refine rgX4_X4_sheets F dX4_comes_1 ?_
  refine g_iload_n F dX4_comes_4 1 rfl ?_
  refine g_iload_n F dX4_comes_5 2 rfl ?_
  refine rX4_X2_at F dX4_comes_6 rfl h (fun r2 s1 h => ?_)
  refine g_istore_n (lv' := [(3, .int r2), (0, .ref (a 0)), (1, .int l1), (2, .int l2)]) F dX4_comes_9 rfl rfl ?_
  refine g_aload_n F dX4_comes_10 1 rfl ?_
  refine rgX4_X4_sheets F dX4_comes_11 ?_
  refine g_iload_n F dX4_comes_14 2 rfl ?_
  refine g_iload_n F dX4_comes_15 3 rfl ?_
  refine g_iconst (v := (1 : Int32)) F dX4_comes_16 (by decide) ?_
  refine g_iadd F dX4_comes_17 ?_
  refine rX4_X2_at F dX4_comes_18 rfl h (fun r4 s3 h => ?_)
  refine g_istore (lv' := [(4, .int r4), (3, .int r2), (0, .ref (a 0)), (1, .int l1), (2, .int l2)]) F dX4_comes_21 rfl rfl ?_
  refine g_aload_n F dX4_comes_23 2 rfl ?_
  refine rgX4_X4_sheets F dX4_comes_24 ?_
  refine g_iload_n F dX4_comes_27 3 rfl ?_
  refine g_iload_n F dX4_comes_28 4 rfl ?_
  refine g_iconst (v := (2 : Int32)) F dX4_comes_29 (by decide) ?_
  refine g_iadd F dX4_comes_30 ?_
  refine rX4_X2_at F dX4_comes_31 rfl h (fun r6 s5 h => ?_)
  refine g_istore (lv' := [(5, .int r6), (4, .int r4), (3, .int r2), (0, .ref (a 0)), (1, .int l1), (2, .int l2)]) F dX4_comes_34 rfl rfl ?_
  refine g_iload_n F dX4_comes_36 2 rfl ?_
  refine g_iload F dX4_comes_37 1 rfl ?_
  refine g_iload F dX4_comes_39 0 rfl ?_
  refine rX4_X4_isWork F dX4_comes_41 rfl h (fun r7 h => ?_)
  refine g_if_eq F dX4_comes_44 (tgt := 59) (by decide) (fun c8 => ?_) (fun c8 => ?_)
  · replace h := h.1 c8
    refine g_iconst (v := (0 : Int32)) F dX4_comes_59 (by decide) ?_
    exact g_zret F R rfl rfl rfl dX4_comes_60 ⟨_, _, rfl, rfl, h⟩
  replace h := h.2 c8
  refine g_aload_n F dX4_comes_47 3 rfl ?_
  refine rgX4_X4_now F dX4_comes_48 ?_
  refine rgX4_X0_works fen3 F dX4_comes_51 ?_
  refine g_bipush (v := (6 : Int32)) F dX4_comes_54 (by decide) ?_
  refine g_icmp_lt F dX4_comes_56 (tgt := 61) (by decide) (fun c9 => ?_) (fun c9 => ?_)
  · replace h := h.1 c9
    refine g_aload_n F dX4_comes_61 3 rfl ?_
    refine rgX4_X4_now F dX4_comes_62 ?_
    refine g_iload_n F dX4_comes_65 2 rfl ?_
    refine g_iload F dX4_comes_66 1 rfl ?_
    refine g_iload F dX4_comes_68 0 rfl ?_
    refine rX4_X0_add F fen3 dX4_comes_70 rfl h (fun s10 h => ?_)
    refine g_iconst (v := (1 : Int32)) F dX4_comes_73 (by decide) ?_
    exact g_zret F R rfl rfl rfl dX4_comes_74 ⟨_, _, rfl, rfl, h⟩
  replace h := h.2 c9
  refine g_iconst (v := (0 : Int32)) F dX4_comes_59 (by decide) ?_
  exact g_zret F R rfl rfl rfl dX4_comes_60 ⟨_, _, rfl, rfl, h⟩
theorem plX4_comes : kPlain yX4_comes 2 = true := by decide +kernel
theorem rX4_X4_comes {z : kZ} {cc : ByteArray} {nL : Nat} {rm : Room} {c n pc : Nat} {lv : List (Nat × Value)} {st : List Value} {a : Nat → Nat} {tx : List kTxt} {E : va_W} {σ : kS} {l1 : Int32} {l2 : Int32} {Q : Int32 → kS → Prop} (F : kF z cc RX4 nL rm) (hd : decode cc pc = .ok (.invokevirtual 234, 3)) (hf : kFits rm 4 126 0 0 6 c n st = true) (h : wX4_comes l1 l2 σ Q) (k : ∀ (v : Int32) (σ' : kS), Q v σ' → kV z (xW (zg z) a tx E σ') c n (pc + 3) lv (.int v :: st)) : kV z (xW (zg z) a tx E σ) c n pc lv (.int l2 :: .int l1 :: .ref (a 0) :: st) := by
  exact g_callV F (av := [.int l1, .int l2]) (ctX4_comes _ _ _ a tx E h) (ci := 4) (q0 := 0) rfl rfl rfl wq794 wq796 wq39 wq109 wq797 plX4_comes hd hf (fun r ws' hq => by
    obtain ⟨v, σ', rfl, rfl, hq⟩ := hq
    exact k v σ' hq)
set_option maxRecDepth 20000 in
theorem sX4_works_70 {z : kZ} {a : Nat → Nat} {tx : List kTxt} {E : va_W}  {Q : Int32 → kS → Prop} {l1 : Int32} {l3 : Int32} {l4 : Int32} {l5 : Int32} {l6 : Int32} {σ : kS} (F : kF z cX4_works RX4 7 { frames := 5, cells := 0, slots := 0, locals := 151 }) (R : kR z (some .int) 0 0 (kPi (xW (zg z) a tx E) Q)) (h : wX4_works_70 Q l1 l3 l4 l5 l6 σ) : kV z (xW (zg z) a tx E σ) 0 0 70 [(0, .ref (a 0)), (1, .int l1), (3, .int l3), (4, .int l4), (5, .int l5), (6, .int l6)] [] := by
  unfold wX4_works_70 at h
  refine h (fun σ l5 l6 => kV z (xW (zg z) a tx E σ) 0 0 70 [(0, .ref (a 0)), (1, .int l1), (3, .int l3), (4, .int l4), (5, .int l5), (6, .int l6)] []) (fun σ l5 l6 h => ?_)
  refine g_iload F dX4_works_70 5 rfl ?_
  refine g_iload F dX4_works_72 3 rfl ?_
  refine g_icmp_ge F dX4_works_74 (tgt := 121) (by decide) (fun c14 => ?_) (fun c14 => ?_)
  · replace h := h.1 c14
    refine g_iload F dX4_works_121 4 rfl ?_
    exact g_iret F R rfl rfl dX4_works_123 ⟨_, _, rfl, rfl, h⟩
  replace h := h.2 c14
  refine g_aload_n F dX4_works_77 0 rfl ?_
  refine rgX4_X4_sheets F dX4_works_78 ?_
  refine g_iload_n F dX4_works_81 1 rfl ?_
  refine g_iload_n F dX4_works_82 2 rfl ?_
  refine g_iconst (v := (3 : Int32)) F dX4_works_83 (by decide) ?_
  refine g_iload F dX4_works_84 5 rfl ?_
  refine g_imul F dX4_works_86 ?_
  refine g_iconst (v := (3 : Int32)) F dX4_works_87 (by decide) ?_
  refine g_iadd F dX4_works_88 ?_
  refine rX4_X2_hasItems F dX4_works_89 rfl h (fun r16 s15 h => ?_)
  refine g_if_ne F dX4_works_92 (tgt := 98) (by decide) (fun c17 => ?_) (fun c17 => ?_)
  · replace h := h.1 c17
    refine g_aload_n F dX4_works_98 0 rfl ?_
    refine g_iload_n F dX4_works_99 1 rfl ?_
    refine g_iload_n F dX4_works_100 2 rfl ?_
    refine g_iconst (v := (3 : Int32)) F dX4_works_101 (by decide) ?_
    refine g_iload F dX4_works_102 5 rfl ?_
    refine g_imul F dX4_works_104 ?_
    refine g_iadd F dX4_works_105 ?_
    refine rX4_X4_comes F dX4_works_106 rfl h (fun r19 s18 h => ?_)
    refine g_if_eq F dX4_works_109 (tgt := 115) (by decide) (fun c20 => ?_) (fun c20 => ?_)
    · replace h := h.1 c20
      obtain ⟨x21, ex21⟩ : ∃ q : Int32, q = l6 + (1 : Int32) := ⟨_, rfl⟩
      replace h := h x21 ex21
      refine g_iinc (lv' := [(6, .int x21), (0, .ref (a 0)), (1, .int l1), (3, .int l3), (4, .int l4), (5, .int l5)]) (d := (1 : Int32)) F dX4_works_115 rfl 5 rfl (by decide) ex21.symm rfl ?_
      refine g_goto F dX4_works_118 (tgt := 70) (by decide) ?_
      exact (g_sub [1, 2, 3, 4, 5, 0] rfl h)
    replace h := h.2 c20
    obtain ⟨x22, ex22⟩ : ∃ q : Int32, q = l5 + (1 : Int32) := ⟨_, rfl⟩
    replace h := h x22 ex22
    refine g_iinc (lv' := [(5, .int x22), (0, .ref (a 0)), (1, .int l1), (3, .int l3), (4, .int l4), (6, .int l6)]) (d := (1 : Int32)) F dX4_works_112 rfl 4 rfl (by decide) ex22.symm rfl ?_
    obtain ⟨x23, ex23⟩ : ∃ q : Int32, q = l6 + (1 : Int32) := ⟨_, rfl⟩
    replace h := h x23 ex23
    refine g_iinc (lv' := [(6, .int x23), (5, .int x22), (0, .ref (a 0)), (1, .int l1), (3, .int l3), (4, .int l4)]) (d := (1 : Int32)) F dX4_works_115 rfl 5 rfl (by decide) ex23.symm rfl ?_
    refine g_goto F dX4_works_118 (tgt := 70) (by decide) ?_
    exact (g_sub [2, 3, 4, 5, 1, 0] rfl h)
  replace h := h.2 c17
  refine g_bipush (v := (-12 : Int32)) F dX4_works_95 (by decide) ?_
  exact g_iret F R rfl rfl dX4_works_97 ⟨_, _, rfl, rfl, h⟩
set_option maxRecDepth 20000 in
theorem ctX4_works (l : Launch) (g : kG) (A : Nat → Prop) (a : Nat → Nat) (tx : List kTxt) (E : va_W) {l1 : Int32} {l2 : Int32} {l3 : Int32} {l4 : Int32} {σ : kS} {Q : Int32 → kS → Prop} (h : wX4_works l1 l2 l3 l4 σ Q) : kCt l yX4_works cX4_works 7 (some .int) 5 151 0 0 g A [.ref (a 0), .int l1, .int l2, .int l3, .int l4] (xW g a tx E σ) (kPi (xW g a tx E) Q) := by
  refine kCt.of (lv0 := [(0, .ref (a 0)), (1, .int l1), (2, .int l2), (3, .int l3), (4, .int l4)]) (by decide +kernel) (Nat.le_of_ble_eq_true rfl) rfl (fun z hl hg hA F R => ?_)
  subst hl hg hA
  have F : kF z cX4_works RX4 7 { frames := 5, cells := 0, slots := 0, locals := 151 } := F
  unfold wX4_works at h
  refine g_aload_n F dX4_works_0 0 rfl ?_
  refine rgX4_X4_sheets F dX4_works_1 ?_
  refine g_iload_n F dX4_works_4 1 rfl ?_
  refine rX4_X2_has F dX4_works_5 rfl h (fun r2 s1 h => ?_)
  refine g_if_eq F dX4_works_8 (tgt := 32) (by decide) (fun c3 => ?_) (fun c3 => ?_)
  · replace h := h.1 c3
    refine g_bipush (v := (-2 : Int32)) F dX4_works_32 (by decide) ?_
    exact g_iret F R rfl rfl dX4_works_34 ⟨_, _, rfl, rfl, h⟩
  replace h := h.2 c3
  refine g_iload_n F dX4_works_11 2 rfl ?_
  refine g_if_lt F dX4_works_12 (tgt := 32) (by decide) (fun c4 => ?_) (fun c4 => ?_)
  · replace h := h.1 c4
    refine g_bipush (v := (-2 : Int32)) F dX4_works_32 (by decide) ?_
    exact g_iret F R rfl rfl dX4_works_34 ⟨_, _, rfl, rfl, h⟩
  replace h := h.2 c4
  refine g_iload_n F dX4_works_15 2 rfl ?_
  refine g_iconst (v := (3 : Int32)) F dX4_works_16 (by decide) ?_
  refine g_icmp_ge F dX4_works_17 (tgt := 32) (by decide) (fun c5 => ?_) (fun c5 => ?_)
  · replace h := h.1 c5
    refine g_bipush (v := (-2 : Int32)) F dX4_works_32 (by decide) ?_
    exact g_iret F R rfl rfl dX4_works_34 ⟨_, _, rfl, rfl, h⟩
  replace h := h.2 c5
  refine g_iload F dX4_works_20 4 rfl ?_
  refine g_if_lt F dX4_works_22 (tgt := 32) (by decide) (fun c6 => ?_) (fun c6 => ?_)
  · replace h := h.1 c6
    refine g_bipush (v := (-2 : Int32)) F dX4_works_32 (by decide) ?_
    exact g_iret F R rfl rfl dX4_works_34 ⟨_, _, rfl, rfl, h⟩
  replace h := h.2 c6
  refine g_iload F dX4_works_25 4 rfl ?_
  refine g_bipush (v := (6 : Int32)) F dX4_works_27 (by decide) ?_
  refine g_icmp_le F dX4_works_29 (tgt := 35) (by decide) (fun c7 => ?_) (fun c7 => ?_)
  · replace h := h.1 c7
    refine g_aload_n F dX4_works_35 0 rfl ?_
    refine rgX4_X4_sheets F dX4_works_36 ?_
    refine g_iload_n F dX4_works_39 1 rfl ?_
    refine rX4_X2_isMissing F dX4_works_40 rfl h (fun r9 s8 h => ?_)
    refine g_if_eq F dX4_works_43 (tgt := 49) (by decide) (fun c10 => ?_) (fun c10 => ?_)
    · replace h := h.1 c10
      refine g_aload_n F dX4_works_49 0 rfl ?_
      refine rgX4_X4_sheets F dX4_works_50 ?_
      refine g_iload_n F dX4_works_53 1 rfl ?_
      refine rX4_X2_sort F dX4_works_54 rfl h (fun r12 s11 h => ?_)
      refine g_iload_n F dX4_works_57 2 rfl ?_
      refine g_icmp_eq F dX4_works_58 (tgt := 64) (by decide) (fun c13 => ?_) (fun c13 => ?_)
      · replace h := h.1 c13
        refine g_iconst (v := (0 : Int32)) F dX4_works_64 (by decide) ?_
        refine g_istore (lv' := [(5, .int (0 : Int32)), (0, .ref (a 0)), (1, .int l1), (2, .int l2), (3, .int l3), (4, .int l4)]) F dX4_works_65 rfl rfl ?_
        refine g_iconst (v := (0 : Int32)) F dX4_works_67 (by decide) ?_
        refine g_istore (lv' := [(6, .int (0 : Int32)), (5, .int (0 : Int32)), (0, .ref (a 0)), (1, .int l1), (2, .int l2), (3, .int l3), (4, .int l4)]) F dX4_works_68 rfl rfl ?_
        exact g_sub [2, 3, 5, 6, 1, 0] rfl (sX4_works_70 F R h)
      replace h := h.2 c13
      refine g_bipush (v := (-13 : Int32)) F dX4_works_61 (by decide) ?_
      exact g_iret F R rfl rfl dX4_works_63 ⟨_, _, rfl, rfl, h⟩
    replace h := h.2 c10
    refine g_bipush (v := (-11 : Int32)) F dX4_works_46 (by decide) ?_
    exact g_iret F R rfl rfl dX4_works_48 ⟨_, _, rfl, rfl, h⟩
  replace h := h.2 c7
  refine g_bipush (v := (-2 : Int32)) F dX4_works_32 (by decide) ?_
  exact g_iret F R rfl rfl dX4_works_34 ⟨_, _, rfl, rfl, h⟩
theorem plX0_isUnder : kPlain yX0_isUnder 2 = true := by decide +kernel
theorem rX4_X0_isUnder {z : kZ} {cc : ByteArray} {nL : Nat} {rm : Room} {c n pc : Nat} {lv : List (Nat × Value)} {st : List Value} {ws : va_W} {l0 : Int32} {l1 : Int32} {Q : Int32 → Prop} (F : kF z cc RX4 nL rm) (hd : decode cc pc = .ok (.invokestatic 237, 3)) (hf : kFits rm 0 40 0 0 4 c n st = true) (h : wX0_isUnder l0 l1 Q) (k : ∀ v : Int32, Q v → kV z ws c n (pc + 3) lv (.int v :: st)) : kV z ws c n pc lv (.int l1 :: .int l0 :: st) := g_callS F (av := [.int l0, .int l1]) (ctX0_isUnder _ _ _ ws h) wq802 wq803 wq110 wq804 plX0_isUnder hd hf (fun r ws' hq => by
    obtain ⟨v, rfl, rfl, hq⟩ := hq
    exact k v hq)
set_option maxRecDepth 20000 in
theorem ctX4_taken (l : Launch) (g : kG) (A : Nat → Prop) (a : Nat → Nat) (tx : List kTxt) (E : va_W) {l1 : Int32} {l2 : Int32} {σ : kS} {Q : Int32 → kS → Prop} (h : wX4_taken l1 l2 σ Q) : kCt l yX4_taken cX4_taken 3 (some .int) 2 84 0 0 g A [.ref (a 0), .int l1, .int l2] (xW g a tx E σ) (kPi (xW g a tx E) Q) := by
  refine kCt.of (lv0 := [(0, .ref (a 0)), (1, .int l1), (2, .int l2)]) (by decide +kernel) (Nat.le_of_ble_eq_true rfl) rfl (fun z hl hg hA F R => ?_)
  subst hl hg hA
  have F : kF z cX4_taken RX4 3 { frames := 2, cells := 0, slots := 0, locals := 84 } := F
  unfold wX4_taken at h
  refine g_iload_n F dX4_taken_0 2 rfl ?_
  refine g_if_lt F dX4_taken_1 (tgt := 10) (by decide) (fun c1 => ?_) (fun c1 => ?_)
  · replace h := h.1 c1
    refine g_bipush (v := (-2 : Int32)) F dX4_taken_10 (by decide) ?_
    exact g_iret F R rfl rfl dX4_taken_12 ⟨_, _, rfl, rfl, h⟩
  replace h := h.2 c1
  refine g_iload_n F dX4_taken_4 2 rfl ?_
  refine g_bipush (v := (6 : Int32)) F dX4_taken_5 (by decide) ?_
  refine g_icmp_lt F dX4_taken_7 (tgt := 13) (by decide) (fun c2 => ?_) (fun c2 => ?_)
  · replace h := h.1 c2
    refine g_iload_n F dX4_taken_13 1 rfl ?_
    refine g_if_lt F dX4_taken_14 (tgt := 28) (by decide) (fun c3 => ?_) (fun c3 => ?_)
    · replace h := h.1 c3
      refine g_bipush (v := (-11 : Int32)) F dX4_taken_28 (by decide) ?_
      exact g_iret F R rfl rfl dX4_taken_30 ⟨_, _, rfl, rfl, h⟩
    replace h := h.2 c3
    refine g_iload_n F dX4_taken_17 1 rfl ?_
    refine g_aload_n F dX4_taken_18 0 rfl ?_
    refine rgX4_X4_now F dX4_taken_19 ?_
    refine rgX4_X0_works fen3 F dX4_taken_22 ?_
    refine g_icmp_lt F dX4_taken_25 (tgt := 31) (by decide) (fun c4 => ?_) (fun c4 => ?_)
    · replace h := h.1 c4
      refine g_aload_n F dX4_taken_31 0 rfl ?_
      refine rgX4_X4_now F dX4_taken_32 ?_
      refine g_bipush (v := (8 : Int32)) F dX4_taken_35 (by decide) ?_
      refine g_iload_n F dX4_taken_37 1 rfl ?_
      refine rX4_X0_get F fen3 dX4_taken_38 rfl h (fun r6 s5 h => ?_)
      refine g_iload_n F dX4_taken_41 2 rfl ?_
      refine rX4_X0_isUnder F dX4_taken_42 rfl h (fun r7 h => ?_)
      refine g_if_eq F dX4_taken_45 (tgt := 60) (by decide) (fun c8 => ?_) (fun c8 => ?_)
      · replace h := h.1 c8
        refine g_bipush (v := (-13 : Int32)) F dX4_taken_60 (by decide) ?_
        exact g_iret F R rfl rfl dX4_taken_62 ⟨_, _, rfl, rfl, h⟩
      replace h := h.2 c8
      refine g_aload_n F dX4_taken_48 0 rfl ?_
      refine rgX4_X4_now F dX4_taken_49 ?_
      refine g_iconst (v := (5 : Int32)) F dX4_taken_52 (by decide) ?_
      refine g_iload_n F dX4_taken_53 1 rfl ?_
      refine rX4_X0_get F fen3 dX4_taken_54 rfl h (fun r10 s9 h => ?_)
      refine g_goto F dX4_taken_57 (tgt := 62) (by decide) ?_
      exact g_iret F R rfl rfl dX4_taken_62 ⟨_, _, rfl, rfl, h⟩
    replace h := h.2 c4
    refine g_bipush (v := (-11 : Int32)) F dX4_taken_28 (by decide) ?_
    exact g_iret F R rfl rfl dX4_taken_30 ⟨_, _, rfl, rfl, h⟩
  replace h := h.2 c2
  refine g_bipush (v := (-2 : Int32)) F dX4_taken_10 (by decide) ?_
  exact g_iret F R rfl rfl dX4_taken_12 ⟨_, _, rfl, rfl, h⟩
