/-! bits (the first rows: laws/BITS.to-paste) -/
def bt (x : Int32) (i : Nat) : Bool := x.toBitVec.getLsbD i
theorem b_ext {x y : Int32} (h : ∀ i, i < 32 → bt x i = bt y i) : x = y := Int32.toBitVec_inj.mp (BitVec.eq_of_getLsbD_eq (fun i hi => h i hi))
theorem b_or (x y : Int32) (i : Nat) : bt (x ||| y) i = (bt x i || bt y i) := by unfold bt; rw [Int32.toBitVec_or, BitVec.getLsbD_or]
theorem b_and (x y : Int32) (i : Nat) : bt (x &&& y) i = (bt x i && bt y i) := by unfold bt; rw [Int32.toBitVec_and, BitVec.getLsbD_and]
theorem b_xor (x y : Int32) (i : Nat) : bt (x ^^^ y) i = (bt x i ^^ bt y i) := by unfold bt; rw [Int32.toBitVec_xor, BitVec.getLsbD_xor]
theorem b_big {x : Int32} {i : Nat} (h : 32 ≤ i) : bt x i = false := BitVec.getLsbD_of_ge _ _ h
theorem b_m1 : ∀ i, i < 32 → bt (-1) i = true := by decide +kernel
theorem b_0 (i : Nat) : bt 0 i = false := BitVec.getLsbD_zero
theorem s_l : ∀ n, n < 32 → ((nI n &&& 31).toBitVec.smod 32).toNat = n := by decide +kernel
theorem s_u : ∀ n, n < 32 → (((nI n).toUInt32 &&& Int32.toUInt32 31).toBitVec % 32).toNat = n := by decide +kernel
theorem b_shl (n : Nat) (hn : n < 32) (x : Int32) {i : Nat} (hi : i < 32) : bt (x <<< (nI n &&& 31)) i = (decide (n ≤ i) && bt x (i - n)) := by
  unfold bt
  rw [Int32.toBitVec_shiftLeft]
  show (x.toBitVec <<< ((nI n &&& 31).toBitVec.smod 32).toNat).getLsbD i = _
  rw [s_l n hn, BitVec.getLsbD_shiftLeft]
  rcases Nat.lt_or_ge i n with h | h
  · simp [h, Nat.not_le.mpr h]
  · simp [hi, h, Nat.not_lt.mpr h]
theorem b_ushr (n : Nat) (hn : n < 32) (x : Int32) (i : Nat) : bt ((x.toUInt32 >>> ((nI n).toUInt32 &&& Int32.toUInt32 31)).toInt32) i = bt x (n + i) := by
  show (x.toUInt32 >>> ((nI n).toUInt32 &&& Int32.toUInt32 31)).toBitVec.getLsbD i = x.toUInt32.toBitVec.getLsbD (n + i)
  rw [UInt32.toBitVec_shiftRight]
  show (x.toUInt32.toBitVec >>> (((nI n).toUInt32 &&& Int32.toUInt32 31).toBitVec % 32).toNat).getLsbD i = _
  rw [s_u n hn, BitVec.getLsbD_ushiftRight]
theorem b_sshr (n : Nat) (hn : n < 32) (x : Int32) {i : Nat} (hi : i < 32) : bt (x >>> (nI n &&& 31)) i = if n + i < 32 then bt x (n + i) else bt x 31 := by
  unfold bt
  rw [Int32.toBitVec_shiftRight]
  show (x.toBitVec.sshiftRight ((nI n &&& 31).toBitVec.smod 32).toNat).getLsbD i = _
  rw [s_l n hn, BitVec.getLsbD_sshiftRight, BitVec.msb_eq_getLsbD_last]
  simp [hi]
theorem b_1 : ∀ i : Nat, i < 32 → bt 1 i = decide (i = 0) := by decide +kernel
theorem b_kshl {x : Int32} {n i : Nat} (hn : n < 32) (hi : i < 32) : bt (kshl x (nI n)) i = (decide (n ≤ i) && bt x (i - n)) := b_shl n hn x hi
theorem b_kshr {x : Int32} {n i : Nat} (hn : n < 32) (hi : i < 32) : bt (kshr x (nI n)) i = if n + i < 32 then bt x (n + i) else bt x 31 := b_sshr n hn x hi
theorem b_kshl1 {n i : Nat} (hn : n < 32) (hi : i < 32) : bt (kshl 1 (nI n)) i = decide (n = i) := by
  rw [b_kshl hn hi]
  by_cases h : n ≤ i
  · rw [b_1 _ (by omega)]
    simp only [h, decide_true, Bool.true_and]
    by_cases h2 : n = i
    · simp [h2]
    · have : ¬ i - n = 0 := by omega
      simp [h2, this]
  · have : ¬ n = i := by omega
    simp [h, this]
theorem b_test {x : Int32} {n : Nat} (hn : n < 32) : (kshr x (nI n) &&& 1) = 0 ↔ bt x n = false := by
  have h0 : bt (kshr x (nI n) &&& 1) 0 = bt x n := by
    rw [b_and, b_kshr hn (by decide), if_pos (by omega), b_1 0 (by decide)]
    simp
  constructor
  · intro h
    rw [h, b_0] at h0
    exact h0.symm
  · intro h
    refine b_ext fun i hi => ?_
    rw [b_0]
    by_cases hi0 : i = 0
    · subst hi0
      rw [h0, h]
    · rw [b_and, b_1 i hi]
      simp [hi0]
theorem b_test0 {x : Int32} : (x &&& 1) = 0 ↔ bt x 0 = false := by
  have e : kshr x (nI 0) = x := by
    refine b_ext fun i hi => ?_
    rw [b_kshr (by decide) hi, if_pos (by omega)]
    simp
  have h := b_test (x := x) (n := 0) (by decide)
  rw [e] at h
  exact h
/-! pure: the year of the class's fen -/
theorem sOk.set3 {nt c : Nat} {A : kFn} {v : Int32} (h : sOk nt A) (hv : 0 ≤ v ∧ v ≤ 999) : sOk nt (fset A 3 c v) := by
  refine ⟨fun d hd => ⟨(h.1 d hd).1, (h.1 d hd).2.1, ?_⟩, h.2⟩
  show 0 ≤ (if d = c then v else A 3 d) ∧ (if d = c then v else A 3 d) ≤ 999
  split
  · exact hv
  · exact (h.1 d hd).2.2
theorem sOk.set2 {nt c : Nat} {A : kFn} {v : Int32} (h : sOk nt A) (hv : 0 ≤ v ∧ v ≤ 99) : sOk nt (fset A 2 c v) := by
  refine ⟨fun d hd => ⟨(h.1 d hd).1, ?_, (h.1 d hd).2.2⟩, h.2⟩
  show 0 ≤ (if d = c then v else A 2 d) ∧ (if d = c then v else A 2 d) ≤ 99
  split
  · exact hv
  · exact (h.1 d hd).2.1
theorem sOk.set1 {nt c : Nat} {A : kFn} {v : Int32} (h : sOk nt A) (hv : 0 ≤ v ∧ v ≤ 99) : sOk nt (fset A 1 c v) := by
  refine ⟨fun d hd => ⟨?_, (h.1 d hd).2⟩, h.2⟩
  show 0 ≤ (if d = c then v else A 1 d) ∧ (if d = c then v else A 1 d) ≤ 99
  split
  · exact hv
  · exact (h.1 d hd).1
theorem sOk.set9 {nt : Nat} {A : kFn} {v : Int32} (h : sOk nt A) : sOk nt (fset A 0 9 v) := h
theorem sOk.set10 {nt : Nat} {A : kFn} {v : Int32} (h : sOk nt A) : sOk nt (fset A 0 10 v) := h
theorem sClamp_in {m v : Int32} (h : 0 ≤ m) : 0 ≤ sClamp m v ∧ sClamp m v ≤ m := by
  unfold sClamp
  split <;> split <;> grind
theorem kSaid_in : ∀ p : Nat, p < 3 → 0 ≤ kSaid p ∧ kSaid p ≤ 99 := by decide
theorem sSay_in {V : Nat → (Nat → Int32) → Int32} {A : kFn} {p c : Nat} {num : Int32} (hp : p < 3) : 0 ≤ sSay V A p c num ∧ sSay V A p c num ≤ 99 := by
  have h1 := kSaid_in p hp
  have h2 := sClamp_in (v := V p (sEnv A c num)) h1.1
  unfold sSay
  grind
theorem sPour_ok {nt c : Nat} {A : kFn} {m : Int32} (h : sOk nt A) (hc : c < 12) (hm : 0 ≤ m ∧ m ≤ 9999) : sOk nt (sPour A c m) := by
  refine h.set3 ?_
  have hw := (h.1 c hc).2.2
  split <;> grind
def tOk (T : kTxt) : Prop := ∀ p : Nat, p < 3 → (xRow T p).2.1 ≤ 160
theorem x_rain {nt b : Nat} {T : kTxt} {σ : kS} {Q : kS → Prop} (hO : sOk nt (fx b σ)) (hT : tOk T) (h : ∀ σ' : kS, fx b σ' = sRain (xV T) (fx b σ) → xO b σ σ' → Q σ') : wX0_rain b T σ Q := by
  intro P hP
  suffices key : ∀ k c : Nat, c + k = 12 → ∀ σ' : kS, fx b σ' = kfor c (fun c B => sPour B c (sSay (xV T) B 0 c (sStand B c))) (fx b σ) → sOk nt (fx b σ') → xO b σ σ' → P σ' (nI c) from key 12 0 rfl σ rfl hO xO.rf
  intro k
  induction k with
  | zero =>
    intro c hc σ' hf hO' ho
    have e : c = 12 := by omega
    subst e
    exact hP _ _ ⟨fun _ => h σ' hf ho, fun q => absurd (k_at rfl) q⟩
  | succ k ih =>
    intro c hc σ' hf hO' ho
    refine hP _ _ ⟨fun q => absurd q (k_ge (N := 12) (by omega) (by decide) rfl), fun _ => ?_⟩
    refine x_says (part := 0) (num := sStand (fx b σ') c) hO' (by omega) (by decide) (hT 0 (by decide)) (Or.inl ⟨rfl, rfl⟩) (fun s2 f2 o2 => ?_)
    refine x_pour (by omega) (fun s4 f4 o4 x5 e5 => ?_)
    rw [e5, k_n1]
    rw [f2] at f4
    refine ih (c + 1) (by omega) s4 ?_ ?_ ((ho.tr o2).tr o4)
    · rw [f4, hf]
      rfl
    · rw [f4]
      exact sPour_ok hO' (by omega) (by have := sSay_in (V := xV T) (A := fx b σ') (p := 0) (c := c) (num := sStand (fx b σ') c) (by decide); grind)
theorem sRain_ok {nt : Nat} {V : Nat → (Nat → Int32) → Int32} {A : kFn} (h : sOk nt A) : sOk nt (sRain V A) := by
  have key : ∀ n : Nat, n ≤ 12 → sOk nt (kfor n (fun c B => sPour B c (sSay V B 0 c (sStand B c))) A) := by
    intro n
    induction n with
    | zero => exact fun _ => h
    | succ n ih =>
      intro hn
      refine sPour_ok (ih (by omega)) (by omega) ?_
      have := sSay_in (V := V) (A := kfor n (fun c B => sPour B c (sSay V B 0 c (sStand B c))) A) (p := 0) (c := n) (num := sStand (kfor n (fun c B => sPour B c (sSay V B 0 c (sStand B c))) A) n) (by decide)
      grind
  exact key 12 (by omega)
theorem x_heldCells {nt b : Nat} {σ : kS} {Q : Int32 → kS → Prop} (hO : sOk nt (fx b σ)) (h : ∀ r : Int32, (∀ c : Nat, c < 12 → bt r c = sHeld (fx b σ) c) → Q r σ) : wX0_heldCells b σ Q := by
  have h6 := hO.works.1
  intro P hP
  suffices key : ∀ k w : Nat, w + k = 6 → ∀ r : Int32, (∀ c : Nat, c < 12 → bt r c = sHeldN (fx b σ) c (min w (sWorks (fx b σ)))) → P σ r (nI w) from key 6 0 rfl 0 (fun c _ => by rw [b_0, Nat.zero_min]; rfl)
  intro k
  induction k with
  | zero =>
    intro w hw r hr
    have e : w = 6 := by omega
    subst e
    rw [show min 6 (sWorks (fx b σ)) = sWorks (fx b σ) by omega] at hr
    exact hP _ _ _ ⟨fun _ => h r hr, fun q => absurd (k_at rfl) q⟩
  | succ k ih =>
    intro w hw r hr
    have skip : (¬ (w < sWorks (fx b σ) ∧ fx b σ 7 w = 1 ∧ fx b σ 4 w = 5)) → ∀ x : Int32, x = nI w + (1 : Int32) → P σ r x := by
      intro hz x ex
      rw [ex, k_n1]
      refine ih (w + 1) (by omega) r (fun c hc => ?_)
      rw [hr c hc]
      by_cases hlt : w < sWorks (fx b σ)
      · rw [show min w (sWorks (fx b σ)) = w by omega, show min (w + 1) (sWorks (fx b σ)) = w + 1 by omega]
        show _ = ((decide (fx b σ 7 w = 1) && decide (fx b σ 4 w = 5) && decide (fx b σ 6 w = nI c)) || sHeldN (fx b σ) c w)
        have : (decide (fx b σ 7 w = 1) && decide (fx b σ 4 w = 5)) = false := by
          rw [Bool.and_eq_false_iff, decide_eq_false_iff_not, decide_eq_false_iff_not]
          by_cases h7 : fx b σ 7 w = 1
          · exact Or.inr (fun h4 => hz ⟨hlt, h7, h4⟩)
          · exact Or.inl h7
        rw [this]
        simp
      · rw [show min w (sWorks (fx b σ)) = min (w + 1) (sWorks (fx b σ)) by omega]
    refine hP _ _ _ ⟨fun q => absurd q (k_ge (N := 6) (by omega) (by decide) rfl), fun _ => x_goes hO (by omega) ⟨fun q x ex => ?_, fun q => ?_⟩⟩
    · refine skip (fun z => ?_) x ex
      rw [if_pos ⟨z.1, z.2.1⟩] at q
      exact absurd q (by decide)
    · have hg : w < sWorks (fx b σ) ∧ fx b σ 7 w = 1 := by
        by_cases z : w < sWorks (fx b σ) ∧ fx b σ 7 w = 1
        · exact z
        · rw [if_neg z] at q
          exact absurd rfl q
      rw [k_cl (by omega)]
      refine ⟨k_idx (by omega) (by decide), fun q4 => ⟨fun _ x ex => skip (fun z => q4 z.2.2) x ex, fun q => absurd rfl q⟩, fun q4 => ⟨fun q => absurd q (by decide), fun _ => ⟨k_idx (by omega) (by decide), fun x9 e9 x10 e10 => ?_⟩⟩⟩
      obtain ⟨p, hp, e6⟩ := (hO.2.2.2.2 w hg.1).2.2.1
      have e6' : σ.1 (b + 6) w = nI p := e6
      rw [e10, k_n1]
      refine ih (w + 1) (by omega) x9 (fun c hc => ?_)
      rw [e9, e6', b_or, hr c hc, b_kshl1 (by omega) (by omega), show min w (sWorks (fx b σ)) = w by omega, show min (w + 1) (sWorks (fx b σ)) = w + 1 by omega]
      show _ = ((decide (fx b σ 7 w = 1) && decide (fx b σ 4 w = 5) && decide (fx b σ 6 w = nI c)) || sHeldN (fx b σ) c w)
      have q4' : fx b σ 4 w = 5 := q4
      rw [hg.2, q4', e6]
      have hpc : (nI p = nI c) ↔ p = c := nI_eq (by omega) (by omega)
      simp only [hpc, decide_true, Bool.true_and]
      exact Bool.or_comm _ _
theorem i_half {x : Int32} (h : 0 < x) : 0 ≤ x / 2 ∧ x / 2 ≤ x := by
  have h2 := i_lt.mp h
  have e0 : (0 : Int32).toInt = 0 := by decide
  rw [i_le, i_le, i_div2, e0, Int.tdiv_eq_ediv_of_nonneg (by omega)]
  omega
theorem i_neghalf {x : Int32} (h : ¬ 0 < x) (h2 : -2000 ≤ x) : 0 ≤ -x / 2 ∧ -x / 2 ≤ 9999 := by
  by_cases h0 : x = 0
  · subst h0
    decide
  · have h1 : 0 < -x := by grind
    have h3 := i_half h1
    have h4 : -x ≤ 2000 := by grind
    grind
