/-! the law: its loop, its start -/
theorem wq122 : Cond.classLink "DrainedForAThirdLaw" 7 "DrainedForAThird" ∈ kWD := kWD_of 122 (by decide +kernel) (by decide +kernel)
theorem wq123 : Cond.instantiable "DrainedForAThird" 9 ∈ kWD := kWD_of 123 (by decide +kernel) (by decide +kernel)
theorem wq124 : Cond.methodLink "DrainedForAThirdLaw" 9 ⟨"DrainedForAThird", "<init>", "()V"⟩ ∈ kWD := kWD_of 124 (by decide +kernel) (by decide +kernel)
theorem wq125 : Cond.instanceMethod ⟨"DrainedForAThird", "<init>", "()V"⟩ ∈ kWD := kWD_of 125 (by decide +kernel) (by decide +kernel)
theorem wq126 : Cond.code ⟨"DrainedForAThird", "<init>", "()V"⟩ prog_1_method_1_code 1 none ∈ kWD := kWD_of 126 (by decide +kernel) (by decide +kernel)
theorem wq807 : Cond.classLink "DrainedForAThirdLaw" 10 "DrainedForAThirdModel" ∈ kWD := kWD_of 807 (by decide +kernel) (by decide +kernel)
theorem wq808 : Cond.instantiable "DrainedForAThirdModel" 45 ∈ kWD := kWD_of 808 (by decide +kernel) (by decide +kernel)
theorem wq809 : Cond.methodLink "DrainedForAThirdLaw" 12 ⟨"DrainedForAThirdModel", "<init>", "()V"⟩ ∈ kWD := kWD_of 809 (by decide +kernel) (by decide +kernel)
theorem wq810 : Cond.instanceMethod ⟨"DrainedForAThirdModel", "<init>", "()V"⟩ ∈ kWD := kWD_of 810 (by decide +kernel) (by decide +kernel)
theorem wq811 : Cond.code ⟨"DrainedForAThirdModel", "<init>", "()V"⟩ prog_7_method_4_code 2 none ∈ kWD := kWD_of 811 (by decide +kernel) (by decide +kernel)
theorem i_n' {i : Nat} (h : i < 100000) : (nI i).toInt = i := by
  show (Int32.ofNat i).toInt = i
  rw [Int32.toInt_ofNat', i_bm (by omega)]
theorem law_room {c d i : Nat} (h : c ≤ 4000 + 483 * i) (g : d ≤ c + 483) : d ≤ 4000 + 483 * (i + 6) := by
  have e : 483 * (i + 6) = 483 * i + 2898 := Nat.mul_add 483 i 6
  rw [e]
  generalize 483 * i = v at h ⊢
  exact Nat.le_trans g (Nat.le_trans (Nat.add_le_add_right h 483) (by omega))
theorem law_step {z : kZ} {b L i ca cb : Nat} {xs : Nat → Int32} {a1 a2 : Nat → Nat} {tx : List kTxt} {E0 : va_W} {σx σm : kS} {x : Int32} (F : kF z code RL 4 room_1) (S : kScr z b L xs) (hL : L ≤ 3072) (hi : i + 6 ≤ L) (hca : ca ≤ 20000) (hcb : cb ≤ 2000000) (hI : kInv tx σx σm) (hx : ∀ T ∈ tx, xIn (zg z) E0 T) (K : lwK z a1 a2 (lwV a1 a2 b i) (ca + 4) (cb + 483) 1011) : kV z (xW (zg z) a1 tx (mW (zg z) a2 E0 σm) σx) ca cb 33 (lwV a1 a2 b i) [.int x] := by
  by_cases c0 : x = 0
  · exact g_tableIn F dL_law_33 (off := 119) (tgt := 152) 0 c0 (by decide) (by decide) (law_set F S hL hi hca hcb hI hx K)
  by_cases c1 : x = 1
  · exact g_tableIn F dL_law_33 (off := 162) (tgt := 195) 1 c1 (by decide) (by decide) (law_work F S hL hi hca hcb hI hx K)
  by_cases c2 : x = 2
  · exact g_tableIn F dL_law_33 (off := 205) (tgt := 238) 2 c2 (by decide) (by decide) (law_told F S hL hi hca hcb hI hx K)
  by_cases c3 : x = 3
  · exact g_tableIn F dL_law_33 (off := 238) (tgt := 271) 3 c3 (by decide) (by decide) (law_feed F S hL hi hca hcb hI hx K)
  by_cases c4 : x = 4
  · exact g_tableIn F dL_law_33 (off := 261) (tgt := 294) 4 c4 (by decide) (by decide) (law_text F S hL hi hca hcb hI hx K)
  by_cases c5 : x = 5
  · exact g_tableIn F dL_law_33 (off := 274) (tgt := 307) 5 c5 (by decide) (by decide) (law_force F S hL hi hca hcb hI hx K)
  by_cases c6 : x = 6
  · exact g_tableIn F dL_law_33 (off := 297) (tgt := 330) 6 c6 (by decide) (by decide) (law_asks F S hL hi hca hcb hI hx K)
  by_cases c7 : x = 7
  · exact g_tableIn F dL_law_33 (off := 330) (tgt := 363) 7 c7 (by decide) (by decide) (law_year F S hL hi hca hcb hI hx K)
  by_cases c8 : x = 8
  · exact g_tableIn F dL_law_33 (off := 343) (tgt := 376) 8 c8 (by decide) (by decide) (law_run F S hL hi hca hcb hI hx K)
  by_cases c9 : x = 9
  · exact g_tableIn F dL_law_33 (off := 376) (tgt := 409) 9 c9 (by decide) (by decide) (law_first F S hL hi hca hcb hI hx K)
  by_cases c10 : x = 10
  · exact g_tableIn F dL_law_33 (off := 409) (tgt := 442) 10 c10 (by decide) (by decide) (law_where F S hL hi hca hcb hI hx K)
  by_cases c11 : x = 11
  · exact g_tableIn F dL_law_33 (off := 452) (tgt := 485) 11 c11 (by decide) (by decide) (law_idle F S hL hi hca hcb hI hx K)
  by_cases c12 : x = 12
  · exact g_tableIn F dL_law_33 (off := 475) (tgt := 508) 12 c12 (by decide) (by decide) (law_low F S hL hi hca hcb hI hx K)
  by_cases c13 : x = 13
  · exact g_tableIn F dL_law_33 (off := 508) (tgt := 541) 13 c13 (by decide) (by decide) (law_floods F S hL hi hca hcb hI hx K)
  by_cases c14 : x = 14
  · exact g_tableIn F dL_law_33 (off := 541) (tgt := 574) 14 c14 (by decide) (by decide) (law_tells F S hL hi hca hcb hI hx K)
  by_cases c15 : x = 15
  · exact g_tableIn F dL_law_33 (off := 574) (tgt := 607) 15 c15 (by decide) (by decide) (law_film F S hL hi hca hcb hI hx K)
  by_cases c16 : x = 16
  · exact g_tableIn F dL_law_33 (off := 607) (tgt := 640) 16 c16 (by decide) (by decide) (law_drawn F S hL hi hca hcb hI hx K)
  by_cases c17 : x = 17
  · exact g_tableIn F dL_law_33 (off := 640) (tgt := 673) 17 c17 (by decide) (by decide) (law_chance F S hL hi hca hcb hI hx K)
  by_cases c18 : x = 18
  · exact g_tableIn F dL_law_33 (off := 694) (tgt := 727) 18 c18 (by decide) (by decide) (law_image F S hL hi hca hcb hI hx K)
  by_cases c19 : x = 19
  · exact g_tableIn F dL_law_33 (off := 707) (tgt := 740) 19 c19 (by decide) (by decide) (law_back F S hL hi hca hcb hI hx K)
  by_cases c20 : x = 20
  · exact g_tableIn F dL_law_33 (off := 720) (tgt := 753) 20 c20 (by decide) (by decide) (law_count F S hL hi hca hcb hI hx K)
  by_cases c21 : x = 21
  · exact g_tableIn F dL_law_33 (off := 743) (tgt := 776) 21 c21 (by decide) (by decide) (law_sheet F S hL hi hca hcb hI hx K)
  by_cases c22 : x = 22
  · exact g_tableIn F dL_law_33 (off := 786) (tgt := 819) 22 c22 (by decide) (by decide) (law_cell F S hL hi hca hcb hI hx K)
  by_cases c23 : x = 23
  · exact g_tableIn F dL_law_33 (off := 829) (tgt := 862) 23 c23 (by decide) (by decide) (law_copy F S hL hi hca hcb hI hx K)
  by_cases c24 : x = 24
  · exact g_tableIn F dL_law_33 (off := 892) (tgt := 925) 24 c24 (by decide) (by decide) (law_works F S hL hi hca hcb hI hx K)
  by_cases c25 : x = 25
  · exact g_tableIn F dL_law_33 (off := 945) (tgt := 978) 25 c25 (by decide) (by decide) (law_taken F S hL hi hca hcb hI hx K)
  exact g_tableOut F dL_law_33 26 (by decide) (lt_s (lt_s (lt_s (lt_s (lt_s (lt_s (lt_s (lt_s (lt_s (lt_s (lt_s (lt_s (lt_s (lt_s (lt_s (lt_s (lt_s (lt_s (lt_s (lt_s (lt_s (lt_s (lt_s (lt_s (lt_s (lt_s lt_0 c0) c1) c2) c3) c4) c5) c6) c7) c8) c9) c10) c11) c12) c13) c14) c15) c16) c17) c18) c19) c20) c21) c22) c23) c24) c25) (tgt := 1011) (by decide) (K tx E0 σx σm ca cb (Nat.le_add_right _ _) (Nat.le_add_right _ _) hI hx)
theorem law_loop {z : kZ} {b L : Nat} {xs : Nat → Int32} {a1 a2 : Nat → Nat} (F : kF z code RL 4 room_1) (S : kScr z b L xs) (hL : L ≤ 3072) (Z : ∀ (ws : va_W) (ca cb : Nat) (lv : List (Nat × Value)), ca ≤ 600000 → cb ≤ 7302250 → kV z ws ca cb 1018 lv [.int 1]) : ∀ n i : Nat, i ≤ L + 6 → L ≤ i + 6 * n → lwK z a1 a2 (lwV a1 a2 b i) (61 + 4 * i) (4000 + 483 * i) 18 := by
  intro n
  have e6 : ∀ i : Nat, i ≤ L + 6 → (nI i).toInt = i := fun i hi => i_n' (by omega)
  have l6 : (nI L - (6 : Int32)).toInt = (L : Int) - 6 := by
    have h6 : (6 : Int32).toInt = 6 := by decide
    rw [i_sub (by rw [e6 L (by omega), h6]; omega), e6 L (by omega), h6]
  have fin : ∀ i : Nat, i ≤ L + 6 → L < i + 6 → lwK z a1 a2 (lwV a1 a2 b i) (61 + 4 * i) (4000 + 483 * i) 18 := by
    intro i hi hLi tx E0 σx σm ca cb h1 h2 hI hx
    refine g_iload_n F dL_law_18 0 rfl ?_
    refine g_aload_n F dL_law_19 3 rfl ?_
    refine g_scrl S F dL_law_20 ?_
    refine g_bipush (v := (6 : Int32)) F dL_law_21 (by decide) ?_
    refine g_isub F dL_law_23 ?_
    refine g_icmp_gt F dL_law_24 (tgt := 1017) (by decide) (fun _ => ?_) (fun c => absurd ?_ c)
    · refine g_iconst (v := (1 : Int32)) F dL_law_1017 (by decide) ?_
      exact Z _ _ _ _ (by omega) (by omega)
    · rw [i_lt, l6, e6 i hi]
      omega
  induction n with
  | zero => exact fun i hi hn => fin i hi (by omega)
  | succ n ih =>
    intro i hi hn
    rcases Nat.lt_or_ge L (i + 6) with h | h
    · exact fin i hi h
    intro tx E0 σx σm ca cb h1 h2 hI hx
    refine g_iload_n F dL_law_18 0 rfl ?_
    refine g_aload_n F dL_law_19 3 rfl ?_
    refine g_scrl S F dL_law_20 ?_
    refine g_bipush (v := (6 : Int32)) F dL_law_21 (by decide) ?_
    refine g_isub F dL_law_23 ?_
    refine g_icmp_gt F dL_law_24 (tgt := 1017) (by decide) (fun c => ?_) (fun _ => ?_)
    · exfalso
      rw [i_lt, l6, e6 i hi] at c
      omega
    refine g_aload_n F dL_law_27 3 rfl ?_
    refine g_iload_n F dL_law_28 0 rfl ?_
    refine g_scri S F (vp_in_nI (by omega) (by omega)) dL_law_29 ?_
    refine g_bipush (v := (31 : Int32)) F dL_law_30 (by decide) ?_
    refine g_iand F dL_law_32 ?_
    refine law_step F S hL h (by omega) (by omega) hI hx (fun tx2 E2 σx2 σm2 ca2 cb2 g1 g2 hI2 hx2 => ?_)
    refine g_iinc (lv' := lwV a1 a2 b (i + 6)) F dL_law_1011 rfl 0 rfl (d := 6) (by decide) (nI_add i 6) rfl ?_
    refine g_goto F dL_law_1014 (tgt := 18) (by decide) ?_
    have k1 : ca2 ≤ 61 + 4 * (i + 6) := by omega
    have k2 : cb2 ≤ 4000 + 483 * (i + 6) := law_room h2 g2
    have k3 := ih (i + 6) (by omega) (by omega)
    exact k3 tx2 E2 σx2 σm2 ca2 cb2 k1 k2 hI2 hx2
theorem law_start {z : kZ} {b L : Nat} {xs : Nat → Int32} (F : kF z code RL 4 room_1) (S : kScr z b L xs) (hL : L ≤ 3072) (Z : ∀ (ws : va_W) (ca cb : Nat) (lv : List (Nat × Value)), ca ≤ 600000 → cb ≤ 7302250 → kV z ws ca cb 1018 lv [.int 1]) : kV z [] 0 0 0 [(0, .ref b)] [] := by
  refine g_newH F (ci := 4) (fs := [.null, .null, .null, .int 0, .null, .int 0, .null, .null, .null]) wq122 wq123 wq109 lysX4 tyX4 tyX4_ok rfl (by decide +kernel) rfl rfl dL_law_0 (fun o => ?_)
  refine g_dup F dL_law_3 rfl ?_
  refine g_callI F (av := []) (ctX4_init _ _ _ []) rfl wq124 wq125 wq109 wq126 (show kPlain yX4_init 0 = true by decide +kernel) dL_law_4 rfl (fun r ws' hq => ?_)
  obtain ⟨rfl, a1, t, r0, r1, r2, h0, rfl⟩ := hq
  subst h0
  refine g_astore_n (lv' := [(1, .ref (a1 0)), (0, .ref b)]) F dL_law_7 rfl rfl ?_
  refine g_newH F (ci := 5) (fs := [.int 0, .null, .null, .int 0, .int 0, .null, .int 0, .int 0, .int 0, .int 0, .null, .null, .null, .int 0, .int 0, .int 0, .int 0, .int 0, .int 0, .int 0, .int 0, .int 0, .int 0, .int 0, .int 0, .long 0, .int 0, .int 0, .int 0, .null, .null, .null, .int 0, .int 0, .null, .null, .int 0, .int 0, .int 0, .int 0, .int 0, .null, .null, .null, .null]) wq807 wq808 wq114 lysX5 tyX5 tyX5_ok rfl (by decide +kernel) rfl rfl dL_law_8 (fun mm => ?_)
  refine g_dup F dL_law_11 rfl ?_
  refine g_callI F (av := []) (ctX5_init _ _ _ _) rfl wq809 wq810 wq114 wq811 (show kPlain yX5_init 0 = true by decide +kernel) dL_law_12 rfl (fun r ws' hq => ?_)
  obtain ⟨rfl, a2, h0, rfl⟩ := hq
  subst h0
  refine g_astore_n (lv' := [(2, .ref (a2 0)), (1, .ref (a1 0)), (0, .ref b)]) F dL_law_15 rfl rfl ?_
  refine g_iconst (v := (0 : Int32)) F dL_law_16 (by decide) ?_
  refine g_istore_n (lv' := lwV a1 a2 b 0) F dL_law_17 rfl rfl ?_
  refine g_swap (x := []) (y := mW (zg z) a2 [] mS0) (w := xW (zg z) a1 [kT0 t r0 r1 r2] (kT0W (zg z) t r0 r1 r2 ++ []) xS0) ?_
  refine g_swap (x := xW (zg z) a1 [kT0 t r0 r1 r2] [] xS0) (y := kT0W (zg z) t r0 r1 r2 ++ []) (w := mW (zg z) a2 [] mS0) ?_
  exact law_loop F S hL Z L 0 (by omega) (by omega) [kT0 t r0 r1 r2] (kT0W (zg z) t r0 r1 r2 ++ []) xS0 mS0 _ _ (Nat.le_of_ble_eq_true rfl) (Nat.le_of_ble_eq_true rfl) kInv_0 (fun T hT => (List.mem_singleton.mp hT) ▸ kT0_in)
