
/-! String constants: their length, their letters -/
def kLenS (i : Nat) : Int32 := Int32.ofNat (kSlen.getD i 0)
def kChr (i : Nat) (j : Int32) : Int32 := ki2c ((kSbyt.getD i []).getD j.toNatClampNeg 0 &&& 255)
theorem kIn {i : Int32} {n : Nat} (h : (decide (i < 0) || decide (n ≤ i.toNatClampNeg)) = false) : vp_in i n := by
  simp only [Bool.or_eq_false_iff, decide_eq_false_iff_not] at h
  exact fun q => q.elim h.1 h.2
theorem kLt {i : Int32} {n : Nat} (h : vp_in i n) : i.toNatClampNeg < n := Nat.not_le.mp fun q => h (Or.inr q)
theorem kFits_of {rm : Room} {fr lo mc ms maxL a b : Nat} {st : List Value} (h1 : fr + 1 ≤ rm.frames) (h2 : 8 + (maxL + 11) + lo ≤ rm.locals) (h3 : a + mc ≤ rm.cells) (h4 : b + ms ≤ rm.slots) (h5 : Nat.ble (st.map fun v => v.category).sum 8 = true) : kFits rm fr lo mc ms maxL a b st = true := by
  unfold kFits
  rw [Nat.ble_eq_true_of_le h1, Nat.ble_eq_true_of_le h2, Nat.ble_eq_true_of_le h3, Nat.ble_eq_true_of_le h4, h5]
  rfl
theorem kLook {x : Int32} {c : Int} {c' : Int32} {o d r : Int} {ps : List (Int × Int)} (he : c'.toInt = c) (hx : ¬ x = c') (h : Op.lookupswitch.offset ps d x.toInt = r) : Op.lookupswitch.offset ((c, o) :: ps) d x.toInt = r := by
  rw [← h]
  have hne : ¬ c = x.toInt := fun q => hx (Int32.toInt_inj.mp (by rw [he]; exact q.symm))
  rw [Op.lookupswitch.offset_cons, if_neg hne]
theorem kLook0 {x d : Int} : Op.lookupswitch.offset [] d x = d := rfl
def kTv (ws0 : va_W) : Option Value → va_W → Prop := fun r ws => r = none ∧ ws = ws0
section KSTR
variable {z : kZ} {cc : ByteArray} {own : String} {nL : Nat} {rm : Room} {ws : va_W} {a b pc : Nat} {lv : List (Nat × Value)} {st : List Value} {i : Nat}
theorem kF.str (F : kF z cc own nL rm) : kStr (zg z) (zA z) (zs z) (zs z).heap := F.2.2.2.2.2.2.2.1.2.2.2.2.2.2
theorem g_str (F : kF z cc "DrainedForAThird$Reader" nL rm) (hi : i < 12) (hd : decode cc pc = .ok (.ldc (83 + 2 * i), 2)) (k : kV z ws a b (pc + 2) lv (.ref ((zg z).2 (10 + i)) :: st)) : kV z ws a b pc lv st := fun H locs ls hP hD hS hl => va_ldcS F.1 F.2.1 F.2.2.2.1 (F.str.2 i hi) hd (k H locs ls hP hD hS hl)
theorem g_scoder (F : kF z cc "java/lang/String" nL rm) (hi : i < 12) (hd : decode cc pc = .ok (.getfield 15, 3)) (k : kV z ws a b (pc + 3) lv (.int 0 :: st)) : kV z ws a b pc lv (.ref ((zg z).2 (10 + i)) :: st) := fun H locs ls hP hD hS hl => vk_getf F.1 F.2.1 (F.str.1.1 i hi).2.1 hS F.2.2.2.1 (F.wd wq1375) (fun x h => h) hd (k H locs ls hP hD hS hl)
theorem g_svalue (F : kF z cc "java/lang/String" nL rm) (hi : i < 12) (hd : decode cc pc = .ok (.getfield 9, 3)) (k : kV z ws a b (pc + 3) lv (.ref ((zg z).2 (30 + i)) :: st)) : kV z ws a b pc lv (.ref ((zg z).2 (10 + i)) :: st) := fun H locs ls hP hD hS hl => vk_getf F.1 F.2.1 (F.str.1.1 i hi).2.2.1 hS F.2.2.2.1 (F.wd wq1374) (fun x h => h) hd (k H locs ls hP hD hS hl)
theorem g_slen (F : kF z cc own nL rm) (hi : i < 12) (hd : decode cc pc = .ok (.arraylength, 1)) (k : kV z ws a b (pc + 1) lv (.int (kLenS i) :: st)) : kV z ws a b pc lv (.ref ((zg z).2 (30 + i)) :: st) := fun H locs ls hP hD hS hl => va_tlen F.1 F.2.1 (F.str.1.1 i hi).2.2.2 hS rfl hd (k H locs ls hP hD hS hl)
theorem g_sald (F : kF z cc own nL rm) (hi : i < 12) {j : Int32} (hj : vp_in j (kSlen.getD i 0)) (hd : decode cc pc = .ok (.baload, 1)) (k : kV z ws a b (pc + 1) lv (.int ((kSbyt.getD i []).getD j.toNatClampNeg 0) :: st)) : kV z ws a b pc lv (.int j :: .ref ((zg z).2 (30 + i)) :: st) := fun H locs ls hP hD hS hl => va_tb F.1 F.2.1 (F.str.1.1 i hi).2.2.2 hS hj rfl hd (k H locs ls hP hD hS hl)
theorem g_callStr (F : kF z cc own nL rm) {y : MethodName} {cy : ByteArray} {maxL : Nat} {ret : Option FieldType} {fr lo mc ms idx : Nat} {av : List Value} {Ps : Option Value → va_W → Prop} (hi : i < 12) (hM : kCt (zl z) y cy maxL ret fr lo mc ms (zg z) (zA z) (.ref ((zg z).2 (10 + i)) :: av) ws Ps)
    (hy : y.cls = "java/lang/String") (q1 : Cond.methodLink own idx y ∈ kWD) (q2 : Cond.instanceMethod y ∈ kWD) (q2s : Cond.selects "java/lang/String" y y ∈ kWD) (q3 : Cond.initialized "java/lang/String" ∈ kWD) (q4 : Cond.code y cy maxL ret ∈ kWD) (hp : kPlain y av.length = true) (hd : decode cc pc = .ok (.invokevirtual idx, 3)) (hf : kFits rm fr lo mc ms maxL a b st = true) :
    kCall z ws a b pc mc ms lv (av.reverse ++ .ref ((zg z).2 (10 + i)) :: st) st Ps := by
  obtain ⟨f1, f2, f3, f4, f5⟩ := kFits_get hf
  refine kBack (av := .ref ((zg z).2 (10 + i)) :: av) F fun H locs ls hP hD hS hl => ?_
  have hx := F
  obtain ⟨e1, e2, e3, e4, e5, e6, e7, e8, e9, e10, e11⟩ := hx
  exact va_runV (own := own) (C := "java/lang/String") (Ts := kWD) (nL := zn z) (b := (zg z).2 (10 + i)) (As := av) ⟨e1, e2, e3, e4, e5⟩ hM ⟨callB_of av.length e5 (kGood (fun w h => h) q4) rfl rfl rfl (by rw [hy]; exact e5 _ q3) (e5 _ q1) (kPlain_get hp) (by rw [e10]; exact ⟨f1, f2⟩), e5 _ q2, e5 _ q2s⟩ ⟨kWd.blind, vk_recv (i := i) F.str.1 hi hS, fun U hU hW => ⟨rfl, kWd.at F hP hD hS U hU hW⟩⟩ rfl rfl hl.1 rfl (lv_room f5) hd (by rw [e10]; exact ⟨f3, f4⟩)
end KSTR
theorem cJ0_coder (l : Launch) (g : kG) (A : Nat → Prop) (ws : va_W) {i : Nat} (hi : i < 12) : kCt l yJ0_coder_7d493 cJ0_coder_7d493 1 (some .byte) 0 40 0 0 g A [.ref (g.2 (10 + i))] ws (kTi ws (fun v => v = 0)) := by
  refine kCt.of (lv0 := [(0, .ref (g.2 (10 + i)))]) (by decide +kernel) (Nat.le_of_ble_eq_true rfl) rfl (fun z hl hg hA F R => ?_)
  subst hl hg hA
  have F : kF z cJ0_coder_7d493 "java/lang/String" 1 { frames := 0, cells := 0, slots := 0, locals := 40 } := F
  refine g_gets F F.2.2.2.2.2.2.2.1.2.2.2.2.1 wq419 dJ0_coder_7d493_0 ?_
  refine g_if_eq F dJ0_coder_7d493_3 (tgt := 13) (by decide) (fun c => absurd c (by decide)) (fun c => ?_)
  refine g_aload_n F dJ0_coder_7d493_6 0 rfl ?_
  refine g_scoder F hi dJ0_coder_7d493_7 ?_
  refine g_goto F dJ0_coder_7d493_10 (tgt := 14) (by decide) ?_
  exact g_zret F R rfl rfl rfl dJ0_coder_7d493_14 ⟨_, rfl, rfl, rfl⟩
theorem cJ0_isLatin1 (l : Launch) (g : kG) (A : Nat → Prop) (ws : va_W) {i : Nat} (hi : i < 12) : kCt l yJ0_isLatin1_aae02 cJ0_isLatin1_aae02 1 (some .boolean) 0 40 0 0 g A [.ref (g.2 (10 + i))] ws (kTi ws (fun v => v = 1)) := by
  refine kCt.of (lv0 := [(0, .ref (g.2 (10 + i)))]) (by decide +kernel) (Nat.le_of_ble_eq_true rfl) rfl (fun z hl hg hA F R => ?_)
  subst hl hg hA
  have F : kF z cJ0_isLatin1_aae02 "java/lang/String" 1 { frames := 0, cells := 0, slots := 0, locals := 40 } := F
  refine g_gets F F.2.2.2.2.2.2.2.1.2.2.2.2.1 wq419 dJ0_isLatin1_aae02_0 ?_
  refine g_if_eq F dJ0_isLatin1_aae02_3 (tgt := 17) (by decide) (fun c => absurd c (by decide)) (fun c => ?_)
  refine g_aload_n F dJ0_isLatin1_aae02_6 0 rfl ?_
  refine g_scoder F hi dJ0_isLatin1_aae02_7 ?_
  refine g_if_ne F dJ0_isLatin1_aae02_10 (tgt := 17) (by decide) (fun c => absurd c (by decide)) (fun c => ?_)
  refine g_iconst (v := 1) F dJ0_isLatin1_aae02_13 (by decide) ?_
  refine g_goto F dJ0_isLatin1_aae02_14 (tgt := 18) (by decide) ?_
  exact g_zret F R rfl rfl rfl dJ0_isLatin1_aae02_18 ⟨_, rfl, rfl, rfl⟩
theorem cJ0_length (l : Launch) (g : kG) (A : Nat → Prop) (ws : va_W) {i : Nat} (hi : i < 12) : kCt l yJ0_length_8abf5 cJ0_length_8abf5 1 (some .int) 1 80 0 0 g A [.ref (g.2 (10 + i))] ws (kTi ws (fun v => v = kshr (kLenS i) 0)) := by
  refine kCt.of (lv0 := [(0, .ref (g.2 (10 + i)))]) (by decide +kernel) (Nat.le_of_ble_eq_true rfl) rfl (fun z hl hg hA F R => ?_)
  subst hl hg hA
  have F : kF z cJ0_length_8abf5 "java/lang/String" 1 { frames := 1, cells := 0, slots := 0, locals := 80 } := F
  refine g_aload_n F dJ0_length_8abf5_0 0 rfl ?_
  refine g_svalue F hi dJ0_length_8abf5_1 ?_
  refine g_slen F hi dJ0_length_8abf5_4 ?_
  refine g_aload_n F dJ0_length_8abf5_5 0 rfl ?_
  refine g_callStr F (av := []) hi (cJ0_coder _ _ _ ws hi) rfl wq415 wq416 wq417 wq116 wq418 (show kPlain yJ0_coder_7d493 0 = true by decide +kernel) dJ0_length_8abf5_6 rfl (fun r ws' hq => ?_)
  obtain ⟨v, rfl, rfl, rfl⟩ := hq
  refine g_ishr F dJ0_length_8abf5_9 ?_
  exact g_iret F R rfl rfl dJ0_length_8abf5_10 ⟨_, rfl, rfl, rfl⟩
theorem cJ3_checkIndex (l : Launch) (g : kG) (A : Nat → Prop) (ws : va_W) {x y : Int32} {v0 : Value} (hv : v0 = .null ∨ ∃ t, v0 = .ref t) (hx : ¬ x < 0 ∧ x < y) : kCt l yJ3_checkIndex_8e157 cJ3_checkIndex_8e157 3 (some .int) 0 40 0 0 g A [.int x, .int y, v0] ws (kTi ws (fun v => v = x)) := by
  refine kCt.of (lv0 := [(0, .int x), (1, .int y), (2, v0)]) (by decide +kernel) (by rcases hv with rfl | ⟨t, rfl⟩ <;> exact Nat.le_of_ble_eq_true rfl) rfl (fun z hl hg hA F R => ?_)
  subst hl hg hA
  have F : kF z cJ3_checkIndex_8e157 "jdk/internal/util/Preconditions" 3 { frames := 0, cells := 0, slots := 0, locals := 40 } := F
  refine g_iload_n F dJ3_checkIndex_8e157_0 0 rfl ?_
  refine g_if_lt F dJ3_checkIndex_8e157_1 (tgt := 9) (by decide) (fun c => absurd c hx.1) (fun c => ?_)
  refine g_iload_n F dJ3_checkIndex_8e157_4 0 rfl ?_
  refine g_iload_n F dJ3_checkIndex_8e157_5 1 rfl ?_
  refine g_icmp_lt F dJ3_checkIndex_8e157_6 (tgt := 16) (by decide) (fun c => ?_) (fun c => absurd hx.2 c)
  refine g_iload_n F dJ3_checkIndex_8e157_16 0 rfl ?_
  exact g_iret F R rfl rfl dJ3_checkIndex_8e157_17 ⟨_, rfl, rfl, rfl⟩
theorem cJ0_checkIndex (l : Launch) (g : kG) (A : Nat → Prop) (ws : va_W) {x y : Int32} (hx : ¬ x < 0 ∧ x < y) : kCt l yJ0_checkIndex_df160 cJ0_checkIndex_df160 2 none 1 80 0 0 g A [.int x, .int y] ws (kTv ws) := by
  refine kCt.of (lv0 := [(0, .int x), (1, .int y)]) (by decide +kernel) (Nat.le_of_ble_eq_true rfl) rfl (fun z hl hg hA F R => ?_)
  subst hl hg hA
  have F : kF z cJ0_checkIndex_df160 "java/lang/String" 2 { frames := 1, cells := 0, slots := 0, locals := 80 } := F
  refine g_iload_n F dJ0_checkIndex_df160_0 0 rfl ?_
  refine g_iload_n F dJ0_checkIndex_df160_1 1 rfl ?_
  have hZ := F.2.2.2.2.2.2.2.1.2.2.2.2.2.1
  have key : ∀ v0 : Value, (v0 = .null ∨ ∃ t, v0 = .ref t) → va_Z "jdk/internal/util/Preconditions" "SIOOBE_FORMATTER" "Ljava/util/function/BiFunction;" v0 (zA z) (zs z) (zs z).heap → kV z ws 0 0 2 [(0, .int x), (1, .int y)] [.int y, .int x] := by
    intro v0 hv hZ
    refine g_gets F hZ wq435 dJ0_checkIndex_df160_2 ?_
    refine g_callS F (av := [.int x, .int y, v0]) (cJ3_checkIndex _ _ _ ws hv hx) wq437 wq438 wq118 wq439 (show kPlain yJ3_checkIndex_8e157 3 = true by decide +kernel) dJ0_checkIndex_df160_5 rfl (fun r ws' hq => ?_)
    obtain ⟨v, rfl, rfl, rfl⟩ := hq
    refine g_pop F dJ0_checkIndex_df160_8 rfl ?_
    exact g_vret F R rfl rfl dJ0_checkIndex_df160_9 ⟨rfl, rfl⟩
  rcases hZ with hZ | ⟨t, hZ⟩
  · exact key _ (Or.inl rfl) hZ
  · exact key _ (Or.inr ⟨t, rfl⟩) hZ
theorem kSin {j : Int32} {i : Nat} (hi : i < 12) (hj : vp_in j (kSlen.getD i 0)) : ¬ j < 0 ∧ j < kLenS i := by
  have hn : kSlen.getD i 0 < 2 ^ 31 := by
    have h : ∀ k : Nat, k < 12 → kSlen.getD k 0 < 2 ^ 31 := by decide
    exact h i hi
  obtain ⟨n, h1, rfl⟩ := vp_in_of hj hn
  exact ⟨nI_pos (by omega), (nI_ltI (by omega) hn).mpr h1⟩
theorem kCharN (x : Int32) : narrow .char (.int (ki2c x)) = .int (ki2c x) := pk_nc x
theorem cJ1_charAt (l : Launch) (g : kG) (A : Nat → Prop) (ws : va_W) {i : Nat} (hi : i < 12) {j : Int32} (hj : vp_in j (kSlen.getD i 0)) : kCt l yJ1_charAt_3b067 cJ1_charAt_3b067 2 (some .char) 2 120 0 0 g A [.ref (g.2 (30 + i)), .int j] ws (kTi ws (fun v => v = kChr i j)) := by
  refine kCt.of (lv0 := [(0, .ref (g.2 (30 + i))), (1, .int j)]) (by decide +kernel) (Nat.le_of_ble_eq_true rfl) rfl (fun z hl hg hA F R => ?_)
  subst hl hg hA
  have F : kF z cJ1_charAt_3b067 "java/lang/StringLatin1" 2 { frames := 2, cells := 0, slots := 0, locals := 120 } := F
  refine g_iload_n F dJ1_charAt_3b067_0 1 rfl ?_
  refine g_aload_n F dJ1_charAt_3b067_1 0 rfl ?_
  refine g_slen F hi dJ1_charAt_3b067_2 ?_
  refine g_callS F (av := [.int j, .int (kLenS i)]) (cJ0_checkIndex _ _ _ ws (kSin hi hj)) wq432 wq433 wq116 wq434 (show kPlain yJ0_checkIndex_df160 2 = true by decide +kernel) dJ1_charAt_3b067_3 rfl (fun r ws' hq => ?_)
  obtain ⟨rfl, rfl⟩ := hq
  refine g_aload_n F dJ1_charAt_3b067_6 0 rfl ?_
  refine g_iload_n F dJ1_charAt_3b067_7 1 rfl ?_
  refine g_sald F hi hj dJ1_charAt_3b067_8 ?_
  refine g_sipush (v := 255) F dJ1_charAt_3b067_9 (by decide) ?_
  refine g_iand F dJ1_charAt_3b067_12 ?_
  refine g_i2c F dJ1_charAt_3b067_13 ?_
  exact g_zret F R (kCharN _) rfl rfl dJ1_charAt_3b067_14 ⟨_, rfl, rfl, rfl⟩
theorem cJ0_charAt (l : Launch) (g : kG) (A : Nat → Prop) (ws : va_W) {i : Nat} (hi : i < 12) {j : Int32} (hj : vp_in j (kSlen.getD i 0)) : kCt l yJ0_charAt_5068e cJ0_charAt_5068e 2 (some .char) 3 160 0 0 g A [.ref (g.2 (10 + i)), .int j] ws (kTi ws (fun v => v = kChr i j)) := by
  refine kCt.of (lv0 := [(0, .ref (g.2 (10 + i))), (1, .int j)]) (by decide +kernel) (Nat.le_of_ble_eq_true rfl) rfl (fun z hl hg hA F R => ?_)
  subst hl hg hA
  have F : kF z cJ0_charAt_5068e "java/lang/String" 2 { frames := 3, cells := 0, slots := 0, locals := 160 } := F
  refine g_aload_n F dJ0_charAt_5068e_0 0 rfl ?_
  refine g_callStr F (av := []) hi (cJ0_isLatin1 _ _ _ ws hi) rfl wq425 wq426 wq427 wq116 wq428 (show kPlain yJ0_isLatin1_aae02 0 = true by decide +kernel) dJ0_charAt_5068e_1 rfl (fun r ws' hq => ?_)
  obtain ⟨v, rfl, rfl, rfl⟩ := hq
  refine g_if_eq F dJ0_charAt_5068e_4 (tgt := 16) (by decide) (fun c => absurd c (by decide)) (fun c => ?_)
  refine g_aload_n F dJ0_charAt_5068e_7 0 rfl ?_
  refine g_svalue F hi dJ0_charAt_5068e_8 ?_
  refine g_iload_n F dJ0_charAt_5068e_11 1 rfl ?_
  refine g_callS F (av := [.ref ((zg z).2 (30 + i)), .int j]) (cJ1_charAt _ _ _ _ hi hj) wq429 wq430 wq117 wq431 (show kPlain yJ1_charAt_3b067 2 = true by decide +kernel) dJ0_charAt_5068e_12 rfl (fun r ws' hq => ?_)
  obtain ⟨v, rfl, rfl, rfl⟩ := hq
  exact g_zret F R (kCharN _) rfl rfl dJ0_charAt_5068e_15 ⟨_, rfl, rfl, rfl⟩
theorem rX1_length {z : kZ} {cc : ByteArray} {nL : Nat} {rm : Room} {ws : va_W} {a b pc : Nat} {lv : List (Nat × Value)} {st : List Value} {i : Nat} (F : kF z cc "DrainedForAThird$Reader" nL rm) (hi : i < 12) (hd : decode cc pc = .ok (.invokevirtual 70, 3)) (hf : kFits rm 1 80 0 0 1 a b st = true) (k : kV z ws a b (pc + 3) lv (.int (kshr (kLenS i) 0) :: st)) : kV z ws a b pc lv (.ref ((zg z).2 (10 + i)) :: st) := by
  refine g_callStr F (av := []) hi (cJ0_length _ _ _ ws hi) rfl wq411 wq412 wq413 wq116 wq414 (show kPlain yJ0_length_8abf5 0 = true by decide +kernel) hd hf (fun r ws' hq => ?_)
  obtain ⟨v, rfl, rfl, rfl⟩ := hq
  exact k
theorem rX1_charAt {z : kZ} {cc : ByteArray} {nL : Nat} {rm : Room} {ws : va_W} {a b pc : Nat} {lv : List (Nat × Value)} {st : List Value} {i : Nat} {j : Int32} (F : kF z cc "DrainedForAThird$Reader" nL rm) (hi : i < 12) (hj : vp_in j (kSlen.getD i 0)) (hd : decode cc pc = .ok (.invokevirtual 76, 3)) (hf : kFits rm 3 160 0 0 2 a b st = true) (k : kV z ws a b (pc + 3) lv (.int (kChr i j) :: st)) : kV z ws a b pc lv (.int j :: .ref ((zg z).2 (10 + i)) :: st) := by
  refine g_callStr F (av := [.int j]) hi (cJ0_charAt _ _ _ ws hi hj) rfl wq421 wq422 wq423 wq116 wq424 (show kPlain yJ0_charAt_5068e 1 = true by decide +kernel) hd hf (fun r ws' hq => ?_)
  obtain ⟨v, rfl, rfl, rfl⟩ := hq
  exact k
