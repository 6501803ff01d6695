theorem wq481 : Cond.methodLink "DrainedForAThird$Reader" 112 ⟨"DrainedForAThird$Reader", "readEither", "(I)V"⟩ ∈ kWD := kWD_of 481 (by decide +kernel) (by decide +kernel)
theorem wq483 : Cond.instanceMethod ⟨"DrainedForAThird$Reader", "readEither", "(I)V"⟩ ∈ kWD := kWD_of 483 (by decide +kernel) (by decide +kernel)
theorem wq10 : Cond.selects "DrainedForAThird$Reader" ⟨"DrainedForAThird$Reader", "readEither", "(I)V"⟩ ⟨"DrainedForAThird$Reader", "readEither", "(I)V"⟩ ∈ kWD := kWD_of 10 (by decide +kernel) (by decide +kernel)
theorem wq484 : Cond.code ⟨"DrainedForAThird$Reader", "readEither", "(I)V"⟩ prog_3_method_17_code 3 none ∈ kWD := kWD_of 484 (by decide +kernel) (by decide +kernel)
theorem wq485 : Cond.methodLink "DrainedForAThird$Reader" 121 ⟨"DrainedForAThird$Reader", "readBoth", "(I)V"⟩ ∈ kWD := kWD_of 485 (by decide +kernel) (by decide +kernel)
theorem wq487 : Cond.instanceMethod ⟨"DrainedForAThird$Reader", "readBoth", "(I)V"⟩ ∈ kWD := kWD_of 487 (by decide +kernel) (by decide +kernel)
theorem wq11 : Cond.selects "DrainedForAThird$Reader" ⟨"DrainedForAThird$Reader", "readBoth", "(I)V"⟩ ⟨"DrainedForAThird$Reader", "readBoth", "(I)V"⟩ ∈ kWD := kWD_of 11 (by decide +kernel) (by decide +kernel)
theorem wq488 : Cond.code ⟨"DrainedForAThird$Reader", "readBoth", "(I)V"⟩ prog_3_method_18_code 3 none ∈ kWD := kWD_of 488 (by decide +kernel) (by decide +kernel)
theorem wq489 : Cond.methodLink "DrainedForAThird$Reader" 127 ⟨"DrainedForAThird$Reader", "readNot", "(I)V"⟩ ∈ kWD := kWD_of 489 (by decide +kernel) (by decide +kernel)
theorem wq491 : Cond.instanceMethod ⟨"DrainedForAThird$Reader", "readNot", "(I)V"⟩ ∈ kWD := kWD_of 491 (by decide +kernel) (by decide +kernel)
theorem wq12 : Cond.selects "DrainedForAThird$Reader" ⟨"DrainedForAThird$Reader", "readNot", "(I)V"⟩ ⟨"DrainedForAThird$Reader", "readNot", "(I)V"⟩ ∈ kWD := kWD_of 12 (by decide +kernel) (by decide +kernel)
theorem wq492 : Cond.code ⟨"DrainedForAThird$Reader", "readNot", "(I)V"⟩ prog_3_method_19_code 3 none ∈ kWD := kWD_of 492 (by decide +kernel) (by decide +kernel)
theorem wq497 : Cond.methodLink "DrainedForAThird$Reader" 130 ⟨"DrainedForAThird$Reader", "readSum", "(I)V"⟩ ∈ kWD := kWD_of 497 (by decide +kernel) (by decide +kernel)
theorem wq499 : Cond.instanceMethod ⟨"DrainedForAThird$Reader", "readSum", "(I)V"⟩ ∈ kWD := kWD_of 499 (by decide +kernel) (by decide +kernel)
theorem wq14 : Cond.selects "DrainedForAThird$Reader" ⟨"DrainedForAThird$Reader", "readSum", "(I)V"⟩ ⟨"DrainedForAThird$Reader", "readSum", "(I)V"⟩ ∈ kWD := kWD_of 14 (by decide +kernel) (by decide +kernel)
theorem wq500 : Cond.code ⟨"DrainedForAThird$Reader", "readSum", "(I)V"⟩ prog_3_method_20_code 4 none ∈ kWD := kWD_of 500 (by decide +kernel) (by decide +kernel)
theorem wq501 : Cond.methodLink "DrainedForAThird$Reader" 133 ⟨"DrainedForAThird$Reader", "readTerm", "(I)V"⟩ ∈ kWD := kWD_of 501 (by decide +kernel) (by decide +kernel)
theorem wq503 : Cond.instanceMethod ⟨"DrainedForAThird$Reader", "readTerm", "(I)V"⟩ ∈ kWD := kWD_of 503 (by decide +kernel) (by decide +kernel)
theorem wq15 : Cond.selects "DrainedForAThird$Reader" ⟨"DrainedForAThird$Reader", "readTerm", "(I)V"⟩ ⟨"DrainedForAThird$Reader", "readTerm", "(I)V"⟩ ∈ kWD := kWD_of 15 (by decide +kernel) (by decide +kernel)
theorem wq504 : Cond.code ⟨"DrainedForAThird$Reader", "readTerm", "(I)V"⟩ prog_3_method_21_code 3 none ∈ kWD := kWD_of 504 (by decide +kernel) (by decide +kernel)
theorem wq505 : Cond.methodLink "DrainedForAThird$Reader" 136 ⟨"DrainedForAThird$Reader", "readOne", "(I)V"⟩ ∈ kWD := kWD_of 505 (by decide +kernel) (by decide +kernel)
theorem wq507 : Cond.instanceMethod ⟨"DrainedForAThird$Reader", "readOne", "(I)V"⟩ ∈ kWD := kWD_of 507 (by decide +kernel) (by decide +kernel)
theorem wq16 : Cond.selects "DrainedForAThird$Reader" ⟨"DrainedForAThird$Reader", "readOne", "(I)V"⟩ ⟨"DrainedForAThird$Reader", "readOne", "(I)V"⟩ ∈ kWD := kWD_of 16 (by decide +kernel) (by decide +kernel)
theorem wq508 : Cond.code ⟨"DrainedForAThird$Reader", "readOne", "(I)V"⟩ prog_3_method_22_code 2 none ∈ kWD := kWD_of 508 (by decide +kernel) (by decide +kernel)
def hRec0 (l : Launch) (g : kG) (A : Nat → Prop) (fr lo : Nat) (a : Nat → Nat) (tx : List kTxt) (E : va_W) (rec : Nat → Int32 → kS → (kS → Prop) → Prop) : Prop := 7 ≤ fr ∧ 300 ≤ lo ∧ (∀ (o : Int32) (σ : kS) (Q : kS → Prop), rec 0 o σ Q → kCt l yX1_readEither cX1_readEither 3 none fr lo 0 0 g A [.ref (a 30), .int o] (xW g a tx E σ) (kPv (xW g a tx E) Q)) ∧ (∀ (o : Int32) (σ : kS) (Q : kS → Prop), rec 1 o σ Q → kCt l yX1_readBoth cX1_readBoth 3 none fr lo 0 0 g A [.ref (a 30), .int o] (xW g a tx E σ) (kPv (xW g a tx E) Q)) ∧ (∀ (o : Int32) (σ : kS) (Q : kS → Prop), rec 2 o σ Q → kCt l yX1_readNot cX1_readNot 3 none fr lo 0 0 g A [.ref (a 30), .int o] (xW g a tx E σ) (kPv (xW g a tx E) Q)) ∧ (∀ (o : Int32) (σ : kS) (Q : kS → Prop), rec 3 o σ Q → kCt l yX1_readSum cX1_readSum 4 none fr lo 0 0 g A [.ref (a 30), .int o] (xW g a tx E σ) (kPv (xW g a tx E) Q)) ∧ (∀ (o : Int32) (σ : kS) (Q : kS → Prop), rec 4 o σ Q → kCt l yX1_readTerm cX1_readTerm 3 none fr lo 0 0 g A [.ref (a 30), .int o] (xW g a tx E σ) (kPv (xW g a tx E) Q)) ∧ (∀ (o : Int32) (σ : kS) (Q : kS → Prop), rec 5 o σ Q → kCt l yX1_readOne cX1_readOne 2 none fr lo 0 0 g A [.ref (a 30), .int o] (xW g a tx E σ) (kPv (xW g a tx E) Q))
abbrev hRec (z : kZ) (fr lo : Nat) (a : Nat → Nat) (tx : List kTxt) (E : va_W) (rec : Nat → Int32 → kS → (kS → Prop) → Prop) : Prop := hRec0 (zl z) (zg z) (zA z) fr lo a tx E rec
theorem plX1_readEither : kPlain yX1_readEither 1 = true := by decide +kernel
theorem rrec0 {z : kZ} {cc : ByteArray} {nL : Nat} {rm : Room} {c n pc : Nat} {lv : List (Nat × Value)} {st : List Value} {a : Nat → Nat} {tx : List kTxt} {E : va_W} {fr lo : Nat} {rec : Nat → Int32 → kS → (kS → Prop) → Prop} {σ : kS} {l1 : Int32} {Q : kS → Prop} (F : kF z cc RX1 nL rm) (hrec : hRec z fr lo a tx E rec) (hd : decode cc pc = .ok (.invokevirtual 112, 3)) (hf : kFits rm fr lo 0 0 3 c n st = true) (h : rec 0 l1 σ Q) (k : ∀ σ' : kS, Q σ' → kV z (xW (zg z) a tx E σ') c n (pc + 3) lv st) : kV z (xW (zg z) a tx E σ) c n pc lv (.int l1 :: .ref (a 30) :: st) := g_callV F (av := [.int l1]) (hrec.2.2.1 l1 σ Q h) (ci := 1) (q0 := 30) rfl rfl rfl wq481 wq483 wq10 wq112 wq484 plX1_readEither hd hf (fun r ws' hq => by
    obtain ⟨σ', rfl, rfl, hq⟩ := hq
    exact k σ' hq)
theorem plX1_readBoth : kPlain yX1_readBoth 1 = true := by decide +kernel
theorem rrec1 {z : kZ} {cc : ByteArray} {nL : Nat} {rm : Room} {c n pc : Nat} {lv : List (Nat × Value)} {st : List Value} {a : Nat → Nat} {tx : List kTxt} {E : va_W} {fr lo : Nat} {rec : Nat → Int32 → kS → (kS → Prop) → Prop} {σ : kS} {l1 : Int32} {Q : kS → Prop} (F : kF z cc RX1 nL rm) (hrec : hRec z fr lo a tx E rec) (hd : decode cc pc = .ok (.invokevirtual 121, 3)) (hf : kFits rm fr lo 0 0 3 c n st = true) (h : rec 1 l1 σ Q) (k : ∀ σ' : kS, Q σ' → kV z (xW (zg z) a tx E σ') c n (pc + 3) lv st) : kV z (xW (zg z) a tx E σ) c n pc lv (.int l1 :: .ref (a 30) :: st) := g_callV F (av := [.int l1]) (hrec.2.2.2.1 l1 σ Q h) (ci := 1) (q0 := 30) rfl rfl rfl wq485 wq487 wq11 wq112 wq488 plX1_readBoth hd hf (fun r ws' hq => by
    obtain ⟨σ', rfl, rfl, hq⟩ := hq
    exact k σ' hq)
theorem plX1_readNot : kPlain yX1_readNot 1 = true := by decide +kernel
theorem rrec2 {z : kZ} {cc : ByteArray} {nL : Nat} {rm : Room} {c n pc : Nat} {lv : List (Nat × Value)} {st : List Value} {a : Nat → Nat} {tx : List kTxt} {E : va_W} {fr lo : Nat} {rec : Nat → Int32 → kS → (kS → Prop) → Prop} {σ : kS} {l1 : Int32} {Q : kS → Prop} (F : kF z cc RX1 nL rm) (hrec : hRec z fr lo a tx E rec) (hd : decode cc pc = .ok (.invokevirtual 127, 3)) (hf : kFits rm fr lo 0 0 3 c n st = true) (h : rec 2 l1 σ Q) (k : ∀ σ' : kS, Q σ' → kV z (xW (zg z) a tx E σ') c n (pc + 3) lv st) : kV z (xW (zg z) a tx E σ) c n pc lv (.int l1 :: .ref (a 30) :: st) := g_callV F (av := [.int l1]) (hrec.2.2.2.2.1 l1 σ Q h) (ci := 1) (q0 := 30) rfl rfl rfl wq489 wq491 wq12 wq112 wq492 plX1_readNot hd hf (fun r ws' hq => by
    obtain ⟨σ', rfl, rfl, hq⟩ := hq
    exact k σ' hq)
theorem plX1_readSum : kPlain yX1_readSum 1 = true := by decide +kernel
theorem rrec3 {z : kZ} {cc : ByteArray} {nL : Nat} {rm : Room} {c n pc : Nat} {lv : List (Nat × Value)} {st : List Value} {a : Nat → Nat} {tx : List kTxt} {E : va_W} {fr lo : Nat} {rec : Nat → Int32 → kS → (kS → Prop) → Prop} {σ : kS} {l1 : Int32} {Q : kS → Prop} (F : kF z cc RX1 nL rm) (hrec : hRec z fr lo a tx E rec) (hd : decode cc pc = .ok (.invokevirtual 130, 3)) (hf : kFits rm fr lo 0 0 4 c n st = true) (h : rec 3 l1 σ Q) (k : ∀ σ' : kS, Q σ' → kV z (xW (zg z) a tx E σ') c n (pc + 3) lv st) : kV z (xW (zg z) a tx E σ) c n pc lv (.int l1 :: .ref (a 30) :: st) := g_callV F (av := [.int l1]) (hrec.2.2.2.2.2.1 l1 σ Q h) (ci := 1) (q0 := 30) rfl rfl rfl wq497 wq499 wq14 wq112 wq500 plX1_readSum hd hf (fun r ws' hq => by
    obtain ⟨σ', rfl, rfl, hq⟩ := hq
    exact k σ' hq)
theorem plX1_readTerm : kPlain yX1_readTerm 1 = true := by decide +kernel
theorem rrec4 {z : kZ} {cc : ByteArray} {nL : Nat} {rm : Room} {c n pc : Nat} {lv : List (Nat × Value)} {st : List Value} {a : Nat → Nat} {tx : List kTxt} {E : va_W} {fr lo : Nat} {rec : Nat → Int32 → kS → (kS → Prop) → Prop} {σ : kS} {l1 : Int32} {Q : kS → Prop} (F : kF z cc RX1 nL rm) (hrec : hRec z fr lo a tx E rec) (hd : decode cc pc = .ok (.invokevirtual 133, 3)) (hf : kFits rm fr lo 0 0 3 c n st = true) (h : rec 4 l1 σ Q) (k : ∀ σ' : kS, Q σ' → kV z (xW (zg z) a tx E σ') c n (pc + 3) lv st) : kV z (xW (zg z) a tx E σ) c n pc lv (.int l1 :: .ref (a 30) :: st) := g_callV F (av := [.int l1]) (hrec.2.2.2.2.2.2.1 l1 σ Q h) (ci := 1) (q0 := 30) rfl rfl rfl wq501 wq503 wq15 wq112 wq504 plX1_readTerm hd hf (fun r ws' hq => by
    obtain ⟨σ', rfl, rfl, hq⟩ := hq
    exact k σ' hq)
theorem plX1_readOne : kPlain yX1_readOne 1 = true := by decide +kernel
theorem rrec5 {z : kZ} {cc : ByteArray} {nL : Nat} {rm : Room} {c n pc : Nat} {lv : List (Nat × Value)} {st : List Value} {a : Nat → Nat} {tx : List kTxt} {E : va_W} {fr lo : Nat} {rec : Nat → Int32 → kS → (kS → Prop) → Prop} {σ : kS} {l1 : Int32} {Q : kS → Prop} (F : kF z cc RX1 nL rm) (hrec : hRec z fr lo a tx E rec) (hd : decode cc pc = .ok (.invokevirtual 136, 3)) (hf : kFits rm fr lo 0 0 2 c n st = true) (h : rec 5 l1 σ Q) (k : ∀ σ' : kS, Q σ' → kV z (xW (zg z) a tx E σ') c n (pc + 3) lv st) : kV z (xW (zg z) a tx E σ) c n pc lv (.int l1 :: .ref (a 30) :: st) := g_callV F (av := [.int l1]) (hrec.2.2.2.2.2.2.2 l1 σ Q h) (ci := 1) (q0 := 30) rfl rfl rfl wq505 wq507 wq16 wq112 wq508 plX1_readOne hd hf (fun r ws' hq => by
    obtain ⟨σ', rfl, rfl, hq⟩ := hq
    exact k σ' hq)
theorem plX1_emit : kPlain yX1_emit 1 = true := by decide +kernel
theorem rX1_X1_emit {z : kZ} {cc : ByteArray} {nL : Nat} {rm : Room} {c n pc : Nat} {lv : List (Nat × Value)} {st : List Value} {a : Nat → Nat} {tx : List kTxt} {E : va_W} {σ : kS} {l1 : Int32} {Q : kS → Prop} (F : kF z cc RX1 nL rm) (hd : decode cc pc = .ok (.invokevirtual 124, 3)) (hf : kFits rm 0 40 0 0 2 c n st = true) (h : wX1_emit l1 σ Q) (k : ∀ σ' : kS, Q σ' → kV z (xW (zg z) a tx E σ') c n (pc + 3) lv st) : kV z (xW (zg z) a tx E σ) c n pc lv (.int l1 :: .ref (a 30) :: st) := by
  exact g_callV F (av := [.int l1]) (ctX1_emit _ _ _ a tx E h) (ci := 1) (q0 := 30) rfl rfl rfl wq493 wq495 wq13 wq112 wq496 plX1_emit hd hf (fun r ws' hq => by
    obtain ⟨σ', rfl, rfl, hq⟩ := hq
    exact k σ' hq)
theorem plX1_expect : kPlain yX1_expect 1 = true := by decide +kernel
theorem rX1_X1_expect {z : kZ} {cc : ByteArray} {nL : Nat} {rm : Room} {c n pc : Nat} {lv : List (Nat × Value)} {st : List Value} {a : Nat → Nat} {tx : List kTxt} {E : va_W} {σ : kS} {l1 : Int32} {Q : kS → Prop} (F : kF z cc RX1 nL rm) (hd : decode cc pc = .ok (.invokevirtual 35, 3)) (hf : kFits rm 6 225 0 0 2 c n st = true) (h : wX1_expect l1 σ Q) (k : ∀ σ' : kS, Q σ' → kV z (xW (zg z) a tx E σ') c n (pc + 3) lv st) : kV z (xW (zg z) a tx E σ) c n pc lv (.int l1 :: .ref (a 30) :: st) := by
  exact g_callV F (av := [.int l1]) (ctX1_expect _ _ _ a tx E h) (ci := 1) (q0 := 30) rfl rfl rfl wq473 wq475 wq8 wq112 wq476 plX1_expect hd hf (fun r ws' hq => by
    obtain ⟨σ', rfl, rfl, hq⟩ := hq
    exact k σ' hq)
set_option maxRecDepth 20000 in
theorem sX1_readEither_7 {z : kZ} {a : Nat → Nat} {tx : List kTxt} {E : va_W} {fr lo : Nat} {rec : Nat → Int32 → kS → (kS → Prop) → Prop}  {Q : kS → Prop} {l1 : Int32} {l2 : Int32} {σ : kS} (F : kF z cX1_readEither RX1 3 { frames := fr + 1, cells := 0, slots := 0, locals := lo + 100 }) (R : kR z none 0 0 (kPv (xW (zg z) a tx E) Q)) (hrec : hRec z fr lo a tx E rec) (h : wX1_readEither_7 rec Q l1 l2 σ) : kV z (xW (zg z) a tx E σ) 0 0 7 [(0, .ref (a 30)), (1, .int l1), (2, .int l2)] [] := by
  unfold wX1_readEither_7 at h
  refine h (fun σ l2 => kV z (xW (zg z) a tx E σ) 0 0 7 [(0, .ref (a 30)), (1, .int l1), (2, .int l2)] []) (fun σ l2 h => ?_)
  refine g_iload_n F dX1_readEither_7 2 rfl ?_
  refine g_sipush (v := (160 : Int32)) F dX1_readEither_8 (by decide) ?_
  refine g_icmp_ge F dX1_readEither_11 (tgt := 45) (by decide) (fun c2 => ?_) (fun c2 => ?_)
  · replace h := h.1 c2
    exact g_vret F R rfl rfl dX1_readEither_45 ⟨_, rfl, rfl, h⟩
  replace h := h.2 c2
  refine g_aload_n F dX1_readEither_14 0 rfl ?_
  refine rgX1_X1_token F dX1_readEither_15 ?_
  refine g_sipush (v := (259 : Int32)) F dX1_readEither_18 (by decide) ?_
  refine g_icmp_ne F dX1_readEither_21 (tgt := 45) (by decide) (fun c3 => ?_) (fun c3 => ?_)
  · replace h := h.1 c3
    exact g_vret F R rfl rfl dX1_readEither_45 ⟨_, rfl, rfl, h⟩
  replace h := h.2 c3
  refine g_aload_n F dX1_readEither_24 0 rfl ?_
  refine rX1_X1_next F dX1_readEither_25 (kFits_of (show 5 + 1 ≤ fr + 1 by have := hrec.1; omega) (show 8 + (1 + 11) + 205 ≤ lo + 100 by have := hrec.2.1; omega) (Nat.le_refl 0) (Nat.le_refl 0) rfl) h (fun s4 h => ?_)
  refine g_aload_n F dX1_readEither_28 0 rfl ?_
  refine g_iload_n F dX1_readEither_29 1 rfl ?_
  refine rrec1 F hrec dX1_readEither_30 (kFits_of (Nat.le_refl _) (show 8 + (3 + 11) + lo ≤ lo + 100 by omega) (Nat.le_refl 0) (Nat.le_refl 0) rfl) h (fun s5 h => ?_)
  refine g_aload_n F dX1_readEither_33 0 rfl ?_
  refine g_bipush (v := (-9 : Int32)) F dX1_readEither_34 (by decide) ?_
  refine rX1_X1_emit F dX1_readEither_36 (kFits_of (show 0 + 1 ≤ fr + 1 by have := hrec.1; omega) (show 8 + (2 + 11) + 40 ≤ lo + 100 by have := hrec.2.1; omega) (Nat.le_refl 0) (Nat.le_refl 0) rfl) h (fun s6 h => ?_)
  obtain ⟨x7, ex7⟩ : ∃ q : Int32, q = l2 + (1 : Int32) := ⟨_, rfl⟩
  replace h := h x7 ex7
  refine g_iinc (lv' := [(2, .int x7), (0, .ref (a 30)), (1, .int l1)]) (d := (1 : Int32)) F dX1_readEither_39 rfl 2 rfl (by decide) ex7.symm rfl ?_
  refine g_goto F dX1_readEither_42 (tgt := 7) (by decide) ?_
  exact (g_sub [1, 2, 0] rfl h)
set_option maxRecDepth 20000 in
theorem sX1_readEither {z : kZ} {a : Nat → Nat} {tx : List kTxt} {E : va_W} {fr lo : Nat} {rec : Nat → Int32 → kS → (kS → Prop) → Prop} {Q : kS → Prop} {l1 : Int32} {σ : kS} (F : kF z cX1_readEither RX1 3 { frames := fr + 1, cells := 0, slots := 0, locals := lo + 100 }) (R : kR z none 0 0 (kPv (xW (zg z) a tx E) Q)) (hrec : hRec z fr lo a tx E rec) (h : wX1_readEither rec l1 σ Q) : kV z (xW (zg z) a tx E σ) 0 0 0 [(0, .ref (a 30)), (1, .int l1)] [] := by
  unfold wX1_readEither at h
  refine g_aload_n F dX1_readEither_0 0 rfl ?_
  refine g_iload_n F dX1_readEither_1 1 rfl ?_
  refine rrec1 F hrec dX1_readEither_2 (kFits_of (Nat.le_refl _) (show 8 + (3 + 11) + lo ≤ lo + 100 by omega) (Nat.le_refl 0) (Nat.le_refl 0) rfl) h (fun s1 h => ?_)
  refine g_iconst (v := (0 : Int32)) F dX1_readEither_5 (by decide) ?_
  refine g_istore_n (lv' := [(2, .int (0 : Int32)), (0, .ref (a 30)), (1, .int l1)]) F dX1_readEither_6 rfl rfl ?_
  exact g_sub [1, 2, 0] rfl (sX1_readEither_7 F R hrec h)
set_option maxRecDepth 20000 in
theorem sX1_readBoth_7 {z : kZ} {a : Nat → Nat} {tx : List kTxt} {E : va_W} {fr lo : Nat} {rec : Nat → Int32 → kS → (kS → Prop) → Prop}  {Q : kS → Prop} {l1 : Int32} {l2 : Int32} {σ : kS} (F : kF z cX1_readBoth RX1 3 { frames := fr + 1, cells := 0, slots := 0, locals := lo + 100 }) (R : kR z none 0 0 (kPv (xW (zg z) a tx E) Q)) (hrec : hRec z fr lo a tx E rec) (h : wX1_readBoth_7 rec Q l1 l2 σ) : kV z (xW (zg z) a tx E σ) 0 0 7 [(0, .ref (a 30)), (1, .int l1), (2, .int l2)] [] := by
  unfold wX1_readBoth_7 at h
  refine h (fun σ l2 => kV z (xW (zg z) a tx E σ) 0 0 7 [(0, .ref (a 30)), (1, .int l1), (2, .int l2)] []) (fun σ l2 h => ?_)
  refine g_iload_n F dX1_readBoth_7 2 rfl ?_
  refine g_sipush (v := (160 : Int32)) F dX1_readBoth_8 (by decide) ?_
  refine g_icmp_ge F dX1_readBoth_11 (tgt := 45) (by decide) (fun c2 => ?_) (fun c2 => ?_)
  · replace h := h.1 c2
    exact g_vret F R rfl rfl dX1_readBoth_45 ⟨_, rfl, rfl, h⟩
  replace h := h.2 c2
  refine g_aload_n F dX1_readBoth_14 0 rfl ?_
  refine rgX1_X1_token F dX1_readBoth_15 ?_
  refine g_sipush (v := (260 : Int32)) F dX1_readBoth_18 (by decide) ?_
  refine g_icmp_ne F dX1_readBoth_21 (tgt := 45) (by decide) (fun c3 => ?_) (fun c3 => ?_)
  · replace h := h.1 c3
    exact g_vret F R rfl rfl dX1_readBoth_45 ⟨_, rfl, rfl, h⟩
  replace h := h.2 c3
  refine g_aload_n F dX1_readBoth_24 0 rfl ?_
  refine rX1_X1_next F dX1_readBoth_25 (kFits_of (show 5 + 1 ≤ fr + 1 by have := hrec.1; omega) (show 8 + (1 + 11) + 205 ≤ lo + 100 by have := hrec.2.1; omega) (Nat.le_refl 0) (Nat.le_refl 0) rfl) h (fun s4 h => ?_)
  refine g_aload_n F dX1_readBoth_28 0 rfl ?_
  refine g_iload_n F dX1_readBoth_29 1 rfl ?_
  refine rrec2 F hrec dX1_readBoth_30 (kFits_of (Nat.le_refl _) (show 8 + (3 + 11) + lo ≤ lo + 100 by omega) (Nat.le_refl 0) (Nat.le_refl 0) rfl) h (fun s5 h => ?_)
  refine g_aload_n F dX1_readBoth_33 0 rfl ?_
  refine g_bipush (v := (-10 : Int32)) F dX1_readBoth_34 (by decide) ?_
  refine rX1_X1_emit F dX1_readBoth_36 (kFits_of (show 0 + 1 ≤ fr + 1 by have := hrec.1; omega) (show 8 + (2 + 11) + 40 ≤ lo + 100 by have := hrec.2.1; omega) (Nat.le_refl 0) (Nat.le_refl 0) rfl) h (fun s6 h => ?_)
  obtain ⟨x7, ex7⟩ : ∃ q : Int32, q = l2 + (1 : Int32) := ⟨_, rfl⟩
  replace h := h x7 ex7
  refine g_iinc (lv' := [(2, .int x7), (0, .ref (a 30)), (1, .int l1)]) (d := (1 : Int32)) F dX1_readBoth_39 rfl 2 rfl (by decide) ex7.symm rfl ?_
  refine g_goto F dX1_readBoth_42 (tgt := 7) (by decide) ?_
  exact (g_sub [1, 2, 0] rfl h)
set_option maxRecDepth 20000 in
theorem sX1_readBoth {z : kZ} {a : Nat → Nat} {tx : List kTxt} {E : va_W} {fr lo : Nat} {rec : Nat → Int32 → kS → (kS → Prop) → Prop} {Q : kS → Prop} {l1 : Int32} {σ : kS} (F : kF z cX1_readBoth RX1 3 { frames := fr + 1, cells := 0, slots := 0, locals := lo + 100 }) (R : kR z none 0 0 (kPv (xW (zg z) a tx E) Q)) (hrec : hRec z fr lo a tx E rec) (h : wX1_readBoth rec l1 σ Q) : kV z (xW (zg z) a tx E σ) 0 0 0 [(0, .ref (a 30)), (1, .int l1)] [] := by
  unfold wX1_readBoth at h
  refine g_aload_n F dX1_readBoth_0 0 rfl ?_
  refine g_iload_n F dX1_readBoth_1 1 rfl ?_
  refine rrec2 F hrec dX1_readBoth_2 (kFits_of (Nat.le_refl _) (show 8 + (3 + 11) + lo ≤ lo + 100 by omega) (Nat.le_refl 0) (Nat.le_refl 0) rfl) h (fun s1 h => ?_)
  refine g_iconst (v := (0 : Int32)) F dX1_readBoth_5 (by decide) ?_
  refine g_istore_n (lv' := [(2, .int (0 : Int32)), (0, .ref (a 30)), (1, .int l1)]) F dX1_readBoth_6 rfl rfl ?_
  exact g_sub [1, 2, 0] rfl (sX1_readBoth_7 F R hrec h)
set_option maxRecDepth 20000 in
theorem sX1_readNot_72 {z : kZ} {a : Nat → Nat} {tx : List kTxt} {E : va_W} {fr lo : Nat} {rec : Nat → Int32 → kS → (kS → Prop) → Prop}  {Q : kS → Prop} {l1 : Int32} {ks0 : Int32} {σ : kS} (F : kF z cX1_readNot RX1 3 { frames := fr + 1, cells := 0, slots := 0, locals := lo + 100 }) (R : kR z none 0 0 (kPv (xW (zg z) a tx E) Q)) (hrec : hRec z fr lo a tx E rec) (h : wX1_readNot_72 rec Q l1 ks0 σ) : kV z (xW (zg z) a tx E σ) 0 0 72 [(0, .ref (a 30)), (1, .int l1)] [.int ks0] := by
  unfold wX1_readNot_72 at h
  refine g_istore_n (lv' := [(2, .int ks0), (0, .ref (a 30)), (1, .int l1)]) F dX1_readNot_72 rfl rfl ?_
  refine g_aload_n F dX1_readNot_73 1 rfl ?_
  refine rX1_X1_next F dX1_readNot_74 (kFits_of (show 5 + 1 ≤ fr + 1 by have := hrec.1; omega) (show 8 + (1 + 11) + 205 ≤ lo + 100 by have := hrec.2.1; omega) (Nat.le_refl 0) (Nat.le_refl 0) rfl) h (fun s10 h => ?_)
  refine g_aload_n F dX1_readNot_77 1 rfl ?_
  refine g_iload_n F dX1_readNot_78 2 rfl ?_
  refine rrec3 F hrec dX1_readNot_79 (kFits_of (Nat.le_refl _) (show 8 + (4 + 11) + lo ≤ lo + 100 by omega) (Nat.le_refl 0) (Nat.le_refl 0) rfl) h (fun s11 h => ?_)
  refine g_aload_n F dX1_readNot_82 1 rfl ?_
  refine g_iload_n F dX1_readNot_83 0 rfl ?_
  refine rX1_X1_emit F dX1_readNot_84 (kFits_of (show 0 + 1 ≤ fr + 1 by have := hrec.1; omega) (show 8 + (2 + 11) + 40 ≤ lo + 100 by have := hrec.2.1; omega) (Nat.le_refl 0) (Nat.le_refl 0) rfl) h (fun s12 h => ?_)
  exact g_vret F R rfl rfl dX1_readNot_87 ⟨_, rfl, rfl, h⟩
set_option maxRecDepth 20000 in
theorem sX1_readNot_56 {z : kZ} {a : Nat → Nat} {tx : List kTxt} {E : va_W} {fr lo : Nat} {rec : Nat → Int32 → kS → (kS → Prop) → Prop}  {Q : kS → Prop} {l1 : Int32} {σ : kS} (F : kF z cX1_readNot RX1 3 { frames := fr + 1, cells := 0, slots := 0, locals := lo + 100 }) (R : kR z none 0 0 (kPv (xW (zg z) a tx E) Q)) (hrec : hRec z fr lo a tx E rec) (h : wX1_readNot_56 rec Q l1 σ) : kV z (xW (zg z) a tx E σ) 0 0 56 [(0, .ref (a 30)), (1, .int l1)] [] := by
  unfold wX1_readNot_56 at h
  refine g_aload_n F dX1_readNot_56 0 rfl ?_
  refine rgX1_X1_token F dX1_readNot_57 ?_
  refine g_bipush (v := (60 : Int32)) F dX1_readNot_60 (by decide) ?_
  refine g_icmp_ne F dX1_readNot_62 (tgt := 70) (by decide) (fun c9 => ?_) (fun c9 => ?_)
  · replace h := h.1 c9
    refine g_bipush (v := (-12 : Int32)) F dX1_readNot_70 (by decide) ?_
    exact (sX1_readNot_72 F R hrec h)
  replace h := h.2 c9
  refine g_bipush (v := (-11 : Int32)) F dX1_readNot_65 (by decide) ?_
  refine g_goto F dX1_readNot_67 (tgt := 72) (by decide) ?_
  exact (sX1_readNot_72 F R hrec h)
set_option maxRecDepth 20000 in
theorem sX1_readNot_33 {z : kZ} {a : Nat → Nat} {tx : List kTxt} {E : va_W} {fr lo : Nat} {rec : Nat → Int32 → kS → (kS → Prop) → Prop}  {Q : kS → Prop} {l1 : Int32} {σ : kS} (F : kF z cX1_readNot RX1 3 { frames := fr + 1, cells := 0, slots := 0, locals := lo + 100 }) (R : kR z none 0 0 (kPv (xW (zg z) a tx E) Q)) (hrec : hRec z fr lo a tx E rec) (h : wX1_readNot_33 rec Q l1 σ) : kV z (xW (zg z) a tx E σ) 0 0 33 [(0, .ref (a 30)), (1, .int l1)] [] := by
  unfold wX1_readNot_33 at h
  refine g_aload_n F dX1_readNot_33 0 rfl ?_
  refine g_iload_n F dX1_readNot_34 1 rfl ?_
  refine rrec3 F hrec dX1_readNot_35 (kFits_of (Nat.le_refl _) (show 8 + (4 + 11) + lo ≤ lo + 100 by omega) (Nat.le_refl 0) (Nat.le_refl 0) rfl) h (fun s6 h => ?_)
  refine g_aload_n F dX1_readNot_38 0 rfl ?_
  refine rgX1_X1_token F dX1_readNot_39 ?_
  refine g_bipush (v := (60 : Int32)) F dX1_readNot_42 (by decide) ?_
  refine g_icmp_eq F dX1_readNot_44 (tgt := 56) (by decide) (fun c7 => ?_) (fun c7 => ?_)
  · replace h := h.1 c7
    exact (sX1_readNot_56 F R hrec h)
  replace h := h.2 c7
  refine g_aload_n F dX1_readNot_47 0 rfl ?_
  refine rgX1_X1_token F dX1_readNot_48 ?_
  refine g_bipush (v := (61 : Int32)) F dX1_readNot_51 (by decide) ?_
  refine g_icmp_ne F dX1_readNot_53 (tgt := 87) (by decide) (fun c8 => ?_) (fun c8 => ?_)
  · replace h := h.1 c8
    exact g_vret F R rfl rfl dX1_readNot_87 ⟨_, rfl, rfl, h⟩
  replace h := h.2 c8
  exact (sX1_readNot_56 F R hrec h)
set_option maxRecDepth 20000 in
theorem sX1_readNot {z : kZ} {a : Nat → Nat} {tx : List kTxt} {E : va_W} {fr lo : Nat} {rec : Nat → Int32 → kS → (kS → Prop) → Prop} {Q : kS → Prop} {l1 : Int32} {σ : kS} (F : kF z cX1_readNot RX1 3 { frames := fr + 1, cells := 0, slots := 0, locals := lo + 100 }) (R : kR z none 0 0 (kPv (xW (zg z) a tx E) Q)) (hrec : hRec z fr lo a tx E rec) (h : wX1_readNot rec l1 σ Q) : kV z (xW (zg z) a tx E σ) 0 0 0 [(0, .ref (a 30)), (1, .int l1)] [] := by
  unfold wX1_readNot at h
  refine g_aload_n F dX1_readNot_0 0 rfl ?_
  refine rgX1_X1_token F dX1_readNot_1 ?_
  refine g_sipush (v := (261 : Int32)) F dX1_readNot_4 (by decide) ?_
  refine g_icmp_ne F dX1_readNot_7 (tgt := 33) (by decide) (fun c1 => ?_) (fun c1 => ?_)
  · replace h := h.1 c1
    exact (sX1_readNot_33 F R hrec h)
  replace h := h.2 c1
  refine g_iload_n F dX1_readNot_10 1 rfl ?_
  refine g_iconst (v := (5 : Int32)) F dX1_readNot_11 (by decide) ?_
  refine g_icmp_ge F dX1_readNot_12 (tgt := 33) (by decide) (fun c2 => ?_) (fun c2 => ?_)
  · replace h := h.1 c2
    exact (sX1_readNot_33 F R hrec h)
  replace h := h.2 c2
  refine g_aload_n F dX1_readNot_15 0 rfl ?_
  refine rX1_X1_next F dX1_readNot_16 (kFits_of (show 5 + 1 ≤ fr + 1 by have := hrec.1; omega) (show 8 + (1 + 11) + 205 ≤ lo + 100 by have := hrec.2.1; omega) (Nat.le_refl 0) (Nat.le_refl 0) rfl) h (fun s3 h => ?_)
  refine g_aload_n F dX1_readNot_19 0 rfl ?_
  refine g_iload_n F dX1_readNot_20 1 rfl ?_
  refine g_iconst (v := (1 : Int32)) F dX1_readNot_21 (by decide) ?_
  refine g_iadd F dX1_readNot_22 ?_
  refine rrec2 F hrec dX1_readNot_23 (kFits_of (Nat.le_refl _) (show 8 + (3 + 11) + lo ≤ lo + 100 by omega) (Nat.le_refl 0) (Nat.le_refl 0) rfl) h (fun s4 h => ?_)
  refine g_aload_n F dX1_readNot_26 0 rfl ?_
  refine g_bipush (v := (-7 : Int32)) F dX1_readNot_27 (by decide) ?_
  refine rX1_X1_emit F dX1_readNot_29 (kFits_of (show 0 + 1 ≤ fr + 1 by have := hrec.1; omega) (show 8 + (2 + 11) + 40 ≤ lo + 100 by have := hrec.2.1; omega) (Nat.le_refl 0) (Nat.le_refl 0) rfl) h (fun s5 h => ?_)
  exact g_vret F R rfl rfl dX1_readNot_32 ⟨_, rfl, rfl, h⟩
set_option maxRecDepth 20000 in
theorem sX1_readSum_48 {z : kZ} {a : Nat → Nat} {tx : List kTxt} {E : va_W} {fr lo : Nat} {rec : Nat → Int32 → kS → (kS → Prop) → Prop}  {Q : kS → Prop} {P7 : kS → Int32 → Prop} {l1 : Int32} {l2 : Int32} {ks0 : Int32} {σ : kS} (F : kF z cX1_readSum RX1 4 { frames := fr + 1, cells := 0, slots := 0, locals := lo + 100 }) (R : kR z none 0 0 (kPv (xW (zg z) a tx E) Q)) (hrec : hRec z fr lo a tx E rec) (hP7 : ∀ (σ : kS) (l2 : Int32), P7 σ l2 → kV z (xW (zg z) a tx E σ) 0 0 7 [(0, .ref (a 30)), (1, .int l1), (2, .int l2)] []) (h : wX1_readSum_48 rec Q P7 l1 l2 ks0 σ) : kV z (xW (zg z) a tx E σ) 0 0 48 [(0, .ref (a 30)), (1, .int l1), (2, .int l2)] [.int ks0] := by
  unfold wX1_readSum_48 at h
  refine g_istore_n (lv' := [(3, .int ks0), (0, .ref (a 30)), (1, .int l1), (2, .int l2)]) F dX1_readSum_48 rfl rfl ?_
  refine g_aload_n F dX1_readSum_49 1 rfl ?_
  refine rX1_X1_next F dX1_readSum_50 (kFits_of (show 5 + 1 ≤ fr + 1 by have := hrec.1; omega) (show 8 + (1 + 11) + 205 ≤ lo + 100 by have := hrec.2.1; omega) (Nat.le_refl 0) (Nat.le_refl 0) rfl) h (fun s6 h => ?_)
  refine g_aload_n F dX1_readSum_53 1 rfl ?_
  refine g_iload_n F dX1_readSum_54 2 rfl ?_
  refine rrec4 F hrec dX1_readSum_55 (kFits_of (Nat.le_refl _) (show 8 + (3 + 11) + lo ≤ lo + 100 by omega) (Nat.le_refl 0) (Nat.le_refl 0) rfl) h (fun s7 h => ?_)
  refine g_aload_n F dX1_readSum_58 1 rfl ?_
  refine g_iload_n F dX1_readSum_59 0 rfl ?_
  refine rX1_X1_emit F dX1_readSum_60 (kFits_of (show 0 + 1 ≤ fr + 1 by have := hrec.1; omega) (show 8 + (2 + 11) + 40 ≤ lo + 100 by have := hrec.2.1; omega) (Nat.le_refl 0) (Nat.le_refl 0) rfl) h (fun s8 h => ?_)
  obtain ⟨x9, ex9⟩ : ∃ q : Int32, q = l2 + (1 : Int32) := ⟨_, rfl⟩
  replace h := h x9 ex9
  refine g_iinc (lv' := [(2, .int x9), (3, .int ks0), (0, .ref (a 30)), (1, .int l1)]) (d := (1 : Int32)) F dX1_readSum_63 rfl 3 rfl (by decide) ex9.symm rfl ?_
  refine g_goto F dX1_readSum_66 (tgt := 7) (by decide) ?_
  exact g_sub [2, 3, 0] rfl (hP7 _ _ h)
set_option maxRecDepth 20000 in
theorem sX1_readSum_32 {z : kZ} {a : Nat → Nat} {tx : List kTxt} {E : va_W} {fr lo : Nat} {rec : Nat → Int32 → kS → (kS → Prop) → Prop}  {Q : kS → Prop} {P7 : kS → Int32 → Prop} {l1 : Int32} {l2 : Int32} {σ : kS} (F : kF z cX1_readSum RX1 4 { frames := fr + 1, cells := 0, slots := 0, locals := lo + 100 }) (R : kR z none 0 0 (kPv (xW (zg z) a tx E) Q)) (hrec : hRec z fr lo a tx E rec) (hP7 : ∀ (σ : kS) (l2 : Int32), P7 σ l2 → kV z (xW (zg z) a tx E σ) 0 0 7 [(0, .ref (a 30)), (1, .int l1), (2, .int l2)] []) (h : wX1_readSum_32 rec Q P7 l1 l2 σ) : kV z (xW (zg z) a tx E σ) 0 0 32 [(0, .ref (a 30)), (1, .int l1), (2, .int l2)] [] := by
  unfold wX1_readSum_32 at h
  refine g_aload_n F dX1_readSum_32 0 rfl ?_
  refine rgX1_X1_token F dX1_readSum_33 ?_
  refine g_bipush (v := (43 : Int32)) F dX1_readSum_36 (by decide) ?_
  refine g_icmp_ne F dX1_readSum_38 (tgt := 46) (by decide) (fun c5 => ?_) (fun c5 => ?_)
  · replace h := h.1 c5
    refine g_bipush (v := (-14 : Int32)) F dX1_readSum_46 (by decide) ?_
    exact (sX1_readSum_48 F R hrec hP7 h)
  replace h := h.2 c5
  refine g_bipush (v := (-13 : Int32)) F dX1_readSum_41 (by decide) ?_
  refine g_goto F dX1_readSum_43 (tgt := 48) (by decide) ?_
  exact (sX1_readSum_48 F R hrec hP7 h)
set_option maxRecDepth 20000 in
theorem sX1_readSum_7 {z : kZ} {a : Nat → Nat} {tx : List kTxt} {E : va_W} {fr lo : Nat} {rec : Nat → Int32 → kS → (kS → Prop) → Prop}  {Q : kS → Prop} {l1 : Int32} {l2 : Int32} {σ : kS} (F : kF z cX1_readSum RX1 4 { frames := fr + 1, cells := 0, slots := 0, locals := lo + 100 }) (R : kR z none 0 0 (kPv (xW (zg z) a tx E) Q)) (hrec : hRec z fr lo a tx E rec) (h : wX1_readSum_7 rec Q l1 l2 σ) : kV z (xW (zg z) a tx E σ) 0 0 7 [(0, .ref (a 30)), (1, .int l1), (2, .int l2)] [] := by
  unfold wX1_readSum_7 at h
  refine h (fun σ l2 => kV z (xW (zg z) a tx E σ) 0 0 7 [(0, .ref (a 30)), (1, .int l1), (2, .int l2)] []) (fun σ l2 h => ?_)
  refine g_iload_n F dX1_readSum_7 2 rfl ?_
  refine g_sipush (v := (160 : Int32)) F dX1_readSum_8 (by decide) ?_
  refine g_icmp_ge F dX1_readSum_11 (tgt := 69) (by decide) (fun c2 => ?_) (fun c2 => ?_)
  · replace h := h.1 c2
    exact g_vret F R rfl rfl dX1_readSum_69 ⟨_, rfl, rfl, h⟩
  replace h := h.2 c2
  refine g_aload_n F dX1_readSum_14 0 rfl ?_
  refine rgX1_X1_token F dX1_readSum_15 ?_
  refine g_bipush (v := (43 : Int32)) F dX1_readSum_18 (by decide) ?_
  refine g_icmp_eq F dX1_readSum_20 (tgt := 32) (by decide) (fun c3 => ?_) (fun c3 => ?_)
  · replace h := h.1 c3
    exact (sX1_readSum_32 F R hrec (fun _ _ h => h) h)
  replace h := h.2 c3
  refine g_aload_n F dX1_readSum_23 0 rfl ?_
  refine rgX1_X1_token F dX1_readSum_24 ?_
  refine g_bipush (v := (45 : Int32)) F dX1_readSum_27 (by decide) ?_
  refine g_icmp_ne F dX1_readSum_29 (tgt := 69) (by decide) (fun c4 => ?_) (fun c4 => ?_)
  · replace h := h.1 c4
    exact g_vret F R rfl rfl dX1_readSum_69 ⟨_, rfl, rfl, h⟩
  replace h := h.2 c4
  exact (sX1_readSum_32 F R hrec (fun _ _ h => h) h)
set_option maxRecDepth 20000 in
theorem sX1_readSum {z : kZ} {a : Nat → Nat} {tx : List kTxt} {E : va_W} {fr lo : Nat} {rec : Nat → Int32 → kS → (kS → Prop) → Prop} {Q : kS → Prop} {l1 : Int32} {σ : kS} (F : kF z cX1_readSum RX1 4 { frames := fr + 1, cells := 0, slots := 0, locals := lo + 100 }) (R : kR z none 0 0 (kPv (xW (zg z) a tx E) Q)) (hrec : hRec z fr lo a tx E rec) (h : wX1_readSum rec l1 σ Q) : kV z (xW (zg z) a tx E σ) 0 0 0 [(0, .ref (a 30)), (1, .int l1)] [] := by
  unfold wX1_readSum at h
  refine g_aload_n F dX1_readSum_0 0 rfl ?_
  refine g_iload_n F dX1_readSum_1 1 rfl ?_
  refine rrec4 F hrec dX1_readSum_2 (kFits_of (Nat.le_refl _) (show 8 + (3 + 11) + lo ≤ lo + 100 by omega) (Nat.le_refl 0) (Nat.le_refl 0) rfl) h (fun s1 h => ?_)
  refine g_iconst (v := (0 : Int32)) F dX1_readSum_5 (by decide) ?_
  refine g_istore_n (lv' := [(2, .int (0 : Int32)), (0, .ref (a 30)), (1, .int l1)]) F dX1_readSum_6 rfl rfl ?_
  exact g_sub [1, 2, 0] rfl (sX1_readSum_7 F R hrec h)
set_option maxRecDepth 20000 in
theorem sX1_readTerm_7 {z : kZ} {a : Nat → Nat} {tx : List kTxt} {E : va_W} {fr lo : Nat} {rec : Nat → Int32 → kS → (kS → Prop) → Prop}  {Q : kS → Prop} {l1 : Int32} {l2 : Int32} {σ : kS} (F : kF z cX1_readTerm RX1 3 { frames := fr + 1, cells := 0, slots := 0, locals := lo + 100 }) (R : kR z none 0 0 (kPv (xW (zg z) a tx E) Q)) (hrec : hRec z fr lo a tx E rec) (h : wX1_readTerm_7 rec Q l1 l2 σ) : kV z (xW (zg z) a tx E σ) 0 0 7 [(0, .ref (a 30)), (1, .int l1), (2, .int l2)] [] := by
  unfold wX1_readTerm_7 at h
  refine h (fun σ l2 => kV z (xW (zg z) a tx E σ) 0 0 7 [(0, .ref (a 30)), (1, .int l1), (2, .int l2)] []) (fun σ l2 h => ?_)
  refine g_iload_n F dX1_readTerm_7 2 rfl ?_
  refine g_sipush (v := (160 : Int32)) F dX1_readTerm_8 (by decide) ?_
  refine g_icmp_ge F dX1_readTerm_11 (tgt := 44) (by decide) (fun c2 => ?_) (fun c2 => ?_)
  · replace h := h.1 c2
    exact g_vret F R rfl rfl dX1_readTerm_44 ⟨_, rfl, rfl, h⟩
  replace h := h.2 c2
  refine g_aload_n F dX1_readTerm_14 0 rfl ?_
  refine rgX1_X1_token F dX1_readTerm_15 ?_
  refine g_bipush (v := (42 : Int32)) F dX1_readTerm_18 (by decide) ?_
  refine g_icmp_ne F dX1_readTerm_20 (tgt := 44) (by decide) (fun c3 => ?_) (fun c3 => ?_)
  · replace h := h.1 c3
    exact g_vret F R rfl rfl dX1_readTerm_44 ⟨_, rfl, rfl, h⟩
  replace h := h.2 c3
  refine g_aload_n F dX1_readTerm_23 0 rfl ?_
  refine rX1_X1_next F dX1_readTerm_24 (kFits_of (show 5 + 1 ≤ fr + 1 by have := hrec.1; omega) (show 8 + (1 + 11) + 205 ≤ lo + 100 by have := hrec.2.1; omega) (Nat.le_refl 0) (Nat.le_refl 0) rfl) h (fun s4 h => ?_)
  refine g_aload_n F dX1_readTerm_27 0 rfl ?_
  refine g_iload_n F dX1_readTerm_28 1 rfl ?_
  refine rrec5 F hrec dX1_readTerm_29 (kFits_of (Nat.le_refl _) (show 8 + (2 + 11) + lo ≤ lo + 100 by omega) (Nat.le_refl 0) (Nat.le_refl 0) rfl) h (fun s5 h => ?_)
  refine g_aload_n F dX1_readTerm_32 0 rfl ?_
  refine g_bipush (v := (-15 : Int32)) F dX1_readTerm_33 (by decide) ?_
  refine rX1_X1_emit F dX1_readTerm_35 (kFits_of (show 0 + 1 ≤ fr + 1 by have := hrec.1; omega) (show 8 + (2 + 11) + 40 ≤ lo + 100 by have := hrec.2.1; omega) (Nat.le_refl 0) (Nat.le_refl 0) rfl) h (fun s6 h => ?_)
  obtain ⟨x7, ex7⟩ : ∃ q : Int32, q = l2 + (1 : Int32) := ⟨_, rfl⟩
  replace h := h x7 ex7
  refine g_iinc (lv' := [(2, .int x7), (0, .ref (a 30)), (1, .int l1)]) (d := (1 : Int32)) F dX1_readTerm_38 rfl 2 rfl (by decide) ex7.symm rfl ?_
  refine g_goto F dX1_readTerm_41 (tgt := 7) (by decide) ?_
  exact (g_sub [1, 2, 0] rfl h)
set_option maxRecDepth 20000 in
theorem sX1_readTerm {z : kZ} {a : Nat → Nat} {tx : List kTxt} {E : va_W} {fr lo : Nat} {rec : Nat → Int32 → kS → (kS → Prop) → Prop} {Q : kS → Prop} {l1 : Int32} {σ : kS} (F : kF z cX1_readTerm RX1 3 { frames := fr + 1, cells := 0, slots := 0, locals := lo + 100 }) (R : kR z none 0 0 (kPv (xW (zg z) a tx E) Q)) (hrec : hRec z fr lo a tx E rec) (h : wX1_readTerm rec l1 σ Q) : kV z (xW (zg z) a tx E σ) 0 0 0 [(0, .ref (a 30)), (1, .int l1)] [] := by
  unfold wX1_readTerm at h
  refine g_aload_n F dX1_readTerm_0 0 rfl ?_
  refine g_iload_n F dX1_readTerm_1 1 rfl ?_
  refine rrec5 F hrec dX1_readTerm_2 (kFits_of (Nat.le_refl _) (show 8 + (2 + 11) + lo ≤ lo + 100 by omega) (Nat.le_refl 0) (Nat.le_refl 0) rfl) h (fun s1 h => ?_)
  refine g_iconst (v := (0 : Int32)) F dX1_readTerm_5 (by decide) ?_
  refine g_istore_n (lv' := [(2, .int (0 : Int32)), (0, .ref (a 30)), (1, .int l1)]) F dX1_readTerm_6 rfl rfl ?_
  exact g_sub [1, 2, 0] rfl (sX1_readTerm_7 F R hrec h)
set_option maxRecDepth 20000 in
theorem sX1_readOne_122 {z : kZ} {a : Nat → Nat} {tx : List kTxt} {E : va_W} {fr lo : Nat} {rec : Nat → Int32 → kS → (kS → Prop) → Prop}  {Q : kS → Prop} {σ : kS} (F : kF z cX1_readOne RX1 2 { frames := fr + 1, cells := 0, slots := 0, locals := lo + 100 }) (R : kR z none 0 0 (kPv (xW (zg z) a tx E) Q)) (hrec : hRec z fr lo a tx E rec) (h : wX1_readOne_122 rec Q σ) : kV z (xW (zg z) a tx E σ) 0 0 122 [(0, .ref (a 30))] [] := by
  unfold wX1_readOne_122 at h
  refine g_aload_n F dX1_readOne_122 0 rfl ?_
  refine rX1_X1_fail F dX1_readOne_123 (kFits_of (show 0 + 1 ≤ fr + 1 by have := hrec.1; omega) (show 8 + (1 + 11) + 40 ≤ lo + 100 by have := hrec.2.1; omega) (Nat.le_refl 0) (Nat.le_refl 0) rfl) h (fun s17 h => ?_)
  exact g_vret F R rfl rfl dX1_readOne_126 ⟨_, rfl, rfl, h⟩
set_option maxRecDepth 20000 in
theorem sX1_readOne_88 {z : kZ} {a : Nat → Nat} {tx : List kTxt} {E : va_W} {fr lo : Nat} {rec : Nat → Int32 → kS → (kS → Prop) → Prop}  {Q : kS → Prop} {l1 : Int32} {σ : kS} (F : kF z cX1_readOne RX1 2 { frames := fr + 1, cells := 0, slots := 0, locals := lo + 100 }) (R : kR z none 0 0 (kPv (xW (zg z) a tx E) Q)) (hrec : hRec z fr lo a tx E rec) (h : wX1_readOne_88 rec Q l1 σ) : kV z (xW (zg z) a tx E σ) 0 0 88 [(0, .ref (a 30)), (1, .int l1)] [] := by
  unfold wX1_readOne_88 at h
  refine g_aload_n F dX1_readOne_88 0 rfl ?_
  refine rgX1_X1_token F dX1_readOne_89 ?_
  refine g_bipush (v := (40 : Int32)) F dX1_readOne_92 (by decide) ?_
  refine g_icmp_ne F dX1_readOne_94 (tgt := 122) (by decide) (fun c12 => ?_) (fun c12 => ?_)
  · replace h := h.1 c12
    exact g_sub [0] rfl (sX1_readOne_122 F R hrec h)
  replace h := h.2 c12
  refine g_iload_n F dX1_readOne_97 1 rfl ?_
  refine g_iconst (v := (5 : Int32)) F dX1_readOne_98 (by decide) ?_
  refine g_icmp_ge F dX1_readOne_99 (tgt := 122) (by decide) (fun c13 => ?_) (fun c13 => ?_)
  · replace h := h.1 c13
    exact g_sub [0] rfl (sX1_readOne_122 F R hrec h)
  replace h := h.2 c13
  refine g_aload_n F dX1_readOne_102 0 rfl ?_
  refine rX1_X1_next F dX1_readOne_103 (kFits_of (show 5 + 1 ≤ fr + 1 by have := hrec.1; omega) (show 8 + (1 + 11) + 205 ≤ lo + 100 by have := hrec.2.1; omega) (Nat.le_refl 0) (Nat.le_refl 0) rfl) h (fun s14 h => ?_)
  refine g_aload_n F dX1_readOne_106 0 rfl ?_
  refine g_iload_n F dX1_readOne_107 1 rfl ?_
  refine g_iconst (v := (1 : Int32)) F dX1_readOne_108 (by decide) ?_
  refine g_iadd F dX1_readOne_109 ?_
  refine rrec0 F hrec dX1_readOne_110 (kFits_of (Nat.le_refl _) (show 8 + (3 + 11) + lo ≤ lo + 100 by omega) (Nat.le_refl 0) (Nat.le_refl 0) rfl) h (fun s15 h => ?_)
  refine g_aload_n F dX1_readOne_113 0 rfl ?_
  refine g_bipush (v := (41 : Int32)) F dX1_readOne_114 (by decide) ?_
  refine rX1_X1_expect F dX1_readOne_116 (kFits_of (show 6 + 1 ≤ fr + 1 by have := hrec.1; omega) (show 8 + (2 + 11) + 225 ≤ lo + 100 by have := hrec.2.1; omega) (Nat.le_refl 0) (Nat.le_refl 0) rfl) h (fun s16 h => ?_)
  refine g_goto F dX1_readOne_119 (tgt := 126) (by decide) ?_
  exact g_vret F R rfl rfl dX1_readOne_126 ⟨_, rfl, rfl, h⟩
set_option maxRecDepth 20000 in
theorem sX1_readOne {z : kZ} {a : Nat → Nat} {tx : List kTxt} {E : va_W} {fr lo : Nat} {rec : Nat → Int32 → kS → (kS → Prop) → Prop} {Q : kS → Prop} {l1 : Int32} {σ : kS} (F : kF z cX1_readOne RX1 2 { frames := fr + 1, cells := 0, slots := 0, locals := lo + 100 }) (R : kR z none 0 0 (kPv (xW (zg z) a tx E) Q)) (hrec : hRec z fr lo a tx E rec) (h : wX1_readOne rec l1 σ Q) : kV z (xW (zg z) a tx E σ) 0 0 0 [(0, .ref (a 30)), (1, .int l1)] [] := by
  unfold wX1_readOne at h
  refine g_aload_n F dX1_readOne_0 0 rfl ?_
  refine rgX1_X1_token F dX1_readOne_1 ?_
  refine g_iconst (v := (2 : Int32)) F dX1_readOne_4 (by decide) ?_
  refine g_icmp_ne F dX1_readOne_5 (tgt := 23) (by decide) (fun c1 => ?_) (fun c1 => ?_)
  · replace h := h.1 c1
    refine g_aload_n F dX1_readOne_23 0 rfl ?_
    refine rgX1_X1_token F dX1_readOne_24 ?_
    refine g_sipush (v := (262 : Int32)) F dX1_readOne_27 (by decide) ?_
    refine g_icmp_lt F dX1_readOne_30 (tgt := 54) (by decide) (fun c2 => ?_) (fun c2 => ?_)
    · replace h := h.1 c2
      refine g_aload_n F dX1_readOne_54 0 rfl ?_
      refine rgX1_X1_token F dX1_readOne_55 ?_
      refine g_bipush (v := (45 : Int32)) F dX1_readOne_58 (by decide) ?_
      refine g_icmp_ne F dX1_readOne_60 (tgt := 88) (by decide) (fun c3 => ?_) (fun c3 => ?_)
      · replace h := h.1 c3
        exact (sX1_readOne_88 F R hrec h)
      replace h := h.2 c3
      refine g_iload_n F dX1_readOne_63 1 rfl ?_
      refine g_iconst (v := (5 : Int32)) F dX1_readOne_64 (by decide) ?_
      refine g_icmp_ge F dX1_readOne_65 (tgt := 88) (by decide) (fun c4 => ?_) (fun c4 => ?_)
      · replace h := h.1 c4
        exact (sX1_readOne_88 F R hrec h)
      replace h := h.2 c4
      refine g_aload_n F dX1_readOne_68 0 rfl ?_
      refine rX1_X1_next F dX1_readOne_69 (kFits_of (show 5 + 1 ≤ fr + 1 by have := hrec.1; omega) (show 8 + (1 + 11) + 205 ≤ lo + 100 by have := hrec.2.1; omega) (Nat.le_refl 0) (Nat.le_refl 0) rfl) h (fun s5 h => ?_)
      refine g_aload_n F dX1_readOne_72 0 rfl ?_
      refine g_iload_n F dX1_readOne_73 1 rfl ?_
      refine g_iconst (v := (1 : Int32)) F dX1_readOne_74 (by decide) ?_
      refine g_iadd F dX1_readOne_75 ?_
      refine rrec5 F hrec dX1_readOne_76 (kFits_of (Nat.le_refl _) (show 8 + (2 + 11) + lo ≤ lo + 100 by omega) (Nat.le_refl 0) (Nat.le_refl 0) rfl) h (fun s6 h => ?_)
      refine g_aload_n F dX1_readOne_79 0 rfl ?_
      refine g_bipush (v := (-8 : Int32)) F dX1_readOne_80 (by decide) ?_
      refine rX1_X1_emit F dX1_readOne_82 (kFits_of (show 0 + 1 ≤ fr + 1 by have := hrec.1; omega) (show 8 + (2 + 11) + 40 ≤ lo + 100 by have := hrec.2.1; omega) (Nat.le_refl 0) (Nat.le_refl 0) rfl) h (fun s7 h => ?_)
      refine g_goto F dX1_readOne_85 (tgt := 126) (by decide) ?_
      exact g_vret F R rfl rfl dX1_readOne_126 ⟨_, rfl, rfl, h⟩
    replace h := h.2 c2
    refine g_aload_n F dX1_readOne_33 0 rfl ?_
    refine g_iconst (v := (-1 : Int32)) F dX1_readOne_34 (by decide) ?_
    refine g_aload_n F dX1_readOne_35 0 rfl ?_
    refine rgX1_X1_token F dX1_readOne_36 ?_
    refine g_sipush (v := (262 : Int32)) F dX1_readOne_39 (by decide) ?_
    refine g_isub F dX1_readOne_42 ?_
    refine g_isub F dX1_readOne_43 ?_
    refine rX1_X1_emit F dX1_readOne_44 (kFits_of (show 0 + 1 ≤ fr + 1 by have := hrec.1; omega) (show 8 + (2 + 11) + 40 ≤ lo + 100 by have := hrec.2.1; omega) (Nat.le_refl 0) (Nat.le_refl 0) rfl) h (fun s8 h => ?_)
    refine g_aload_n F dX1_readOne_47 0 rfl ?_
    refine rX1_X1_next F dX1_readOne_48 (kFits_of (show 5 + 1 ≤ fr + 1 by have := hrec.1; omega) (show 8 + (1 + 11) + 205 ≤ lo + 100 by have := hrec.2.1; omega) (Nat.le_refl 0) (Nat.le_refl 0) rfl) h (fun s9 h => ?_)
    refine g_goto F dX1_readOne_51 (tgt := 126) (by decide) ?_
    exact g_vret F R rfl rfl dX1_readOne_126 ⟨_, rfl, rfl, h⟩
  replace h := h.2 c1
  refine g_aload_n F dX1_readOne_8 0 rfl ?_
  refine g_aload_n F dX1_readOne_9 0 rfl ?_
  refine rgX1_X1_amount F dX1_readOne_10 ?_
  refine rX1_X1_emit F dX1_readOne_13 (kFits_of (show 0 + 1 ≤ fr + 1 by have := hrec.1; omega) (show 8 + (2 + 11) + 40 ≤ lo + 100 by have := hrec.2.1; omega) (Nat.le_refl 0) (Nat.le_refl 0) rfl) h (fun s10 h => ?_)
  refine g_aload_n F dX1_readOne_16 0 rfl ?_
  refine rX1_X1_next F dX1_readOne_17 (kFits_of (show 5 + 1 ≤ fr + 1 by have := hrec.1; omega) (show 8 + (1 + 11) + 205 ≤ lo + 100 by have := hrec.2.1; omega) (Nat.le_refl 0) (Nat.le_refl 0) rfl) h (fun s11 h => ?_)
  refine g_goto F dX1_readOne_20 (tgt := 126) (by decide) ?_
  exact g_vret F R rfl rfl dX1_readOne_126 ⟨_, rfl, rfl, h⟩
theorem ctRd (l : Launch) (g : kG) (A : Nat → Prop) (a : Nat → Nat) (tx : List kTxt) (E : va_W) : ∀ d : Nat, hRec0 l g A (7 + d) (300 + 100 * d) a tx E (wRd d) := by
  intro d
  induction d with
  | zero => exact ⟨by omega, by omega, fun _ _ _ h => False.elim h, fun _ _ _ h => False.elim h, fun _ _ _ h => False.elim h, fun _ _ _ h => False.elim h, fun _ _ _ h => False.elim h, fun _ _ _ h => False.elim h⟩
  | succ d ih =>
    refine ⟨by omega, by omega, ?_, ?_, ?_, ?_, ?_, ?_⟩
    · intro o σ Q h
      refine kCt.of (lv0 := [(0, .ref (a 30)), (1, .int o)]) (by decide +kernel) (Nat.le_of_ble_eq_true rfl) rfl (fun z hl hg hA F R => ?_)
      subst hl hg hA
      exact sX1_readEither F R ih h
    · intro o σ Q h
      refine kCt.of (lv0 := [(0, .ref (a 30)), (1, .int o)]) (by decide +kernel) (Nat.le_of_ble_eq_true rfl) rfl (fun z hl hg hA F R => ?_)
      subst hl hg hA
      exact sX1_readBoth F R ih h
    · intro o σ Q h
      refine kCt.of (lv0 := [(0, .ref (a 30)), (1, .int o)]) (by decide +kernel) (Nat.le_of_ble_eq_true rfl) rfl (fun z hl hg hA F R => ?_)
      subst hl hg hA
      exact sX1_readNot F R ih h
    · intro o σ Q h
      refine kCt.of (lv0 := [(0, .ref (a 30)), (1, .int o)]) (by decide +kernel) (Nat.le_of_ble_eq_true rfl) rfl (fun z hl hg hA F R => ?_)
      subst hl hg hA
      exact sX1_readSum F R ih h
    · intro o σ Q h
      refine kCt.of (lv0 := [(0, .ref (a 30)), (1, .int o)]) (by decide +kernel) (Nat.le_of_ble_eq_true rfl) rfl (fun z hl hg hA F R => ?_)
      subst hl hg hA
      exact sX1_readTerm F R ih h
    · intro o σ Q h
      refine kCt.of (lv0 := [(0, .ref (a 30)), (1, .int o)]) (by decide +kernel) (Nat.le_of_ble_eq_true rfl) rfl (fun z hl hg hA F R => ?_)
      subst hl hg hA
      exact sX1_readOne F R ih h
