/-! pure: years in thought, of the class -/
def sZ (seed : Int32) : Nat → Int32
  | 0 => seed
  | i + 1 => sZ seed i * 1103515245 + 12345
def sWet (z : Int32) : Int32 := krem (kushr z 9) 10
theorem i_nat (x : Int32) : x = nI x.toBitVec.toNat := by
  apply Int32.toBitVec_inj.mp
  show x.toBitVec = BitVec.ofNat 32 x.toBitVec.toNat
  simp
theorem sWet_in {z : Int32} : 0 ≤ sWet z ∧ sWet z ≤ 9 := by
  have h1 := pk_ushr z 9 9 (by decide)
  have h2 := i_nat (kushr z 9)
  have h3 : z.toBitVec.toNat < 2 ^ 32 := z.toBitVec.isLt
  have e : (kushr z 9).toBitVec.toNat = z.toBitVec.toNat / 2 ^ 9 := h1
  rw [e] at h2
  have h4 : z.toBitVec.toNat / 2 ^ 9 < 2 ^ 31 := by omega
  generalize z.toBitVec.toNat / 2 ^ 9 = m at h2 h4
  have r : sWet z = nI (m % 10) := by
    unfold sWet krem
    rw [h2]
    exact pk_rem h4 (by decide) (by decide)
  rw [r]
  exact ⟨nI_pos' (by omega), nI_le (b := 9) (by omega) (by decide)⟩
def sStep (W : Nat → Nat → (Nat → Int32) → Int32) (d : Bool) (seed : Int32) (i : Nat) (B : kFn) : kFn := sLive W (if d = true then sPourAll (sWet (sZ seed (i + 1))) B else B)
def sRun (W : Nat → Nat → (Nat → Int32) → Int32) (d : Bool) (seed : Int32) (n : Nat) (A : kFn) : kFn := kfor n (sStep W d seed) A
theorem sLive_ok {nt : Nat} {W : Nat → Nat → (Nat → Int32) → Int32} {A : kFn} (hO : sOk nt A) : sOk nt (sLive W A) ∧ sLive W (nf A) = nf (sLive W A) ∧ (sLive W A) 0 12 = A 0 12 := by
  refine ⟨sYear_ok hO, ?_, sYear_rule⟩
  unfold sLive
  rw [nf_0 (by decide) (by decide), nf_year hO]
theorem sStep_ok {nt i : Nat} {W : Nat → Nat → (Nat → Int32) → Int32} {d : Bool} {seed : Int32} {A : kFn} (hO : sOk nt A) : sOk nt (sStep W d seed i A) ∧ sStep W d seed i (nf A) = nf (sStep W d seed i A) := by
  unfold sStep
  cases d with
  | false => exact ⟨(sLive_ok hO).1, (sLive_ok hO).2.1⟩
  | true =>
    have e := sPourAll_ok (m := sWet (sZ seed (i + 1))) sWet_in hO
    rw [if_pos rfl, if_pos rfl, e.2.1]
    exact ⟨(sLive_ok e.1).1, (sLive_ok e.1).2.1⟩
theorem sRun_ok {nt : Nat} {W : Nat → Nat → (Nat → Int32) → Int32} {d : Bool} {seed : Int32} {A : kFn} (hO : sOk nt A) : ∀ n : Nat, sOk nt (sRun W d seed n A) ∧ sRun W d seed n (nf A) = nf (sRun W d seed n A) := by
  intro n
  induction n with
  | zero => exact ⟨hO, rfl⟩
  | succ n ih =>
    have e := sStep_ok (W := W) (d := d) (seed := seed) (i := n) ih.1
    refine ⟨e.1, ?_⟩
    show sStep W d seed n (sRun W d seed n (nf A)) = nf (sStep W d seed n (sRun W d seed n A))
    rw [ih.2, e.2]
/-- the texts of the class, as it keeps them -/
def xE (tx : List kTxt) (σ : kS) : Prop := σ.1 0 5 = nI tx.length ∧ 0 < tx.length ∧ tx.length ≤ 6 ∧ ∀ t : Nat, ∀ T : kTxt, tx[t]? = some T → tOk T
def sW (tx : List kTxt) (t : Nat) : Nat → (Nat → Int32) → Int32 := match tx[t]? with
  | some T => xV T
  | none => fun _ _ => 0
theorem xE.o {tx : List kTxt} {b : Nat} {σ σ' : kS} (h : xE tx σ) (ho : xO b σ σ') (hb : 0 < b) : xE tx σ' := by
  refine ⟨?_, h.2⟩
  rw [ho.1 0 (Or.inl hb)]
  exact h.1
theorem x_rule {tx : List kTxt} {b : Nat} {σ : kS} {Q : kTxt → kS → Prop} (hE : xE tx σ) (hO : sOk tx.length (fx b σ)) (h : ∀ T : kTxt, tOk T → xV T = sW tx (fx b σ 0 12).toNatClampNeg → Q T σ) : wX4_ruleOf tx b σ Q := by
  obtain ⟨e1, e2, e3, e4⟩ := hE
  obtain ⟨t, h1, h2⟩ := hO.2.2.2.1
  have hr : σ.1 b 12 = nI t := h2
  have hg : tx[t]? = some tx[t] := List.getElem?_eq_getElem h1
  unfold wX4_ruleOf
  rw [hr, e1, k_cl (by omega)]
  refine ⟨fun q => absurd q (k_nn (by omega)), fun _ => ⟨fun q => absurd q (nI_ge h1 (by omega)), fun _ => ⟨k_idx (by omega) (by decide), tx[t], hg, h _ (e4 t _ hg) ?_⟩⟩⟩
  rw [h2, k_cl (by omega)]
  unfold sW
  rw [hg]
theorem x_live {tx : List kTxt} {b : Nat} {σ : kS} {Q : kS → Prop} (hE : xE tx σ) (hO : sOk tx.length (fx b σ)) (h : ∀ σ' : kS, fx b σ' = sLive (sW tx) (fx b σ) → xO b σ σ' → Q σ') : wX4_ruleOf tx b σ (fun T s => wX0_passYear b T s Q) :=
  x_rule hE hO (fun T hT eT => x_passYear hO hT (fun σ' f o => h σ' (by rw [f, eT]; rfl) o))
theorem kput_at {σ : kS} {p : Nat} {f : Nat → Int32} : (kput σ p f).1 p = f := by simp [kput]
theorem kput_off {σ : kS} {p q : Nat} {f : Nat → Int32} (h : q ≠ p) : (kput σ p f).1 q = σ.1 q := by simp [kput, h]
theorem x_take {b b1 : Nat} {σ : kS} {Q : kS → Prop} (hb : b + 8 < b1 ∨ b1 + 8 < b) (h : ∀ σ' : kS, nf (fx b σ') = nf (fx b1 σ) → xO b σ σ' → Q σ') : wX0_take b b1 σ Q := by
  have c0 : (0 : Int32).toNatClampNeg = 0 := by decide
  have c6 : (6 : Int32).toNatClampNeg = 6 := by decide
  have c12 : (12 : Int32).toNatClampNeg = 12 := by decide
  have ok12 : ((¬ (0 : Int32) < 0) ∧ (¬ (0 : Int32) < 0) ∧ (¬ (12 : Int32) < 0) ∧ (0 : Int32).toNatClampNeg + (12 : Int32).toNatClampNeg ≤ 12 ∧ (0 : Int32).toNatClampNeg + (12 : Int32).toNatClampNeg ≤ 12) := by decide
  have ok6 : ((¬ (0 : Int32) < 0) ∧ (¬ (0 : Int32) < 0) ∧ (¬ (6 : Int32) < 0) ∧ (0 : Int32).toNatClampNeg + (6 : Int32).toNatClampNeg ≤ 6 ∧ (0 : Int32).toNatClampNeg + (6 : Int32).toNatClampNeg ≤ 6) := by decide
  refine ⟨ok12, fun s1 e1 => ⟨ok12, fun s2 e2 => ⟨ok12, fun s3 e3 => ⟨ok6, fun s4 e4 => ⟨ok6, fun s5 e5 => ⟨ok6, fun s6 e6 => ⟨ok6, fun s7 e7 s8 e8 s9 e9 s10 e10 s11 e11 s12 e12 => ?_⟩⟩⟩⟩⟩⟩⟩
  rw [c0, c12] at e1 e2 e3
  rw [c0, c6] at e4 e5 e6 e7
  have o1 : xO b σ s1 := by subst e1; exact ⟨fun p hp => kput_off (by omega), rfl⟩
  have o2 : xO b σ s2 := o1.tr (by subst e2; exact ⟨fun p hp => kput_off (by omega), rfl⟩)
  have o3 : xO b σ s3 := o2.tr (by subst e3; exact ⟨fun p hp => kput_off (by omega), rfl⟩)
  have o4 : xO b σ s4 := o3.tr (by subst e4; exact ⟨fun p hp => kput_off (by omega), rfl⟩)
  have o5 : xO b σ s5 := o4.tr (by subst e5; exact ⟨fun p hp => kput_off (by omega), rfl⟩)
  have o6 : xO b σ s6 := o5.tr (by subst e6; exact ⟨fun p hp => kput_off (by omega), rfl⟩)
  have o7 : xO b σ s7 := o6.tr (by subst e7; exact ⟨fun p hp => kput_off (by omega), rfl⟩)
  have o8 : xO b σ s8 := o7.tr (by subst e8; exact xO.set0)
  have o9 : xO b σ s9 := o8.tr (by subst e9; exact xO.set0)
  have o10 : xO b σ s10 := o9.tr (by subst e10; exact xO.set0)
  have o11 : xO b σ s11 := o10.tr (by subst e11; exact xO.set0)
  have o12 : xO b σ s12 := o11.tr (by subst e12; exact xO.set0)
  have b1o : ∀ s : kS, xO b σ s → ∀ r : Nat, r ≤ 7 → s.1 (b1 + r) = σ.1 (b1 + r) := fun s o r hr => o.1 _ (by omega)
  have row : ∀ r : Nat, 1 ≤ r → r ≤ 7 → s12.1 (b + r) = s7.1 (b + r) := by
    intro r h1 h2
    rw [e12, kset_off (by omega), e11, kset_off (by omega), e10, kset_off (by omega), e9, kset_off (by omega), e8, kset_off (by omega)]
  refine h s12 ?_ o12
  funext r i
  unfold nf
  split
  · rename_i hu
    unfold fx
    have hr7 : r ≤ 7 := by
      simp only [kUse, Bool.or_eq_true, Bool.and_eq_true, decide_eq_true_eq] at hu
      omega
    rw [if_pos hr7, if_pos hr7]
    by_cases h0 : r = 0
    · subst h0
      have hi : 8 ≤ i ∧ i ≤ 12 := by
        simp only [kUse, Bool.or_eq_true, Bool.and_eq_true, decide_eq_true_eq] at hu
        omega
      have a8 : s8.1 b 8 = σ.1 b1 8 := by rw [e8, kset_at]; exact congrFun (b1o s7 o7 0 (by omega)) 8
      have a9 : s9.1 b 9 = σ.1 b1 9 := by rw [e9, kset_at]; exact congrFun (b1o s8 o8 0 (by omega)) 9
      have a10 : s10.1 b 10 = σ.1 b1 10 := by rw [e10, kset_at]; exact congrFun (b1o s9 o9 0 (by omega)) 10
      have a11 : s11.1 b 11 = σ.1 b1 11 := by rw [e11, kset_at]; exact congrFun (b1o s10 o10 0 (by omega)) 11
      have a12 : s12.1 b 12 = σ.1 b1 12 := by rw [e12, kset_at]; exact congrFun (b1o s11 o11 0 (by omega)) 12
      have hc : i = 8 ∨ i = 9 ∨ i = 10 ∨ i = 11 ∨ i = 12 := by omega
      show s12.1 b i = σ.1 b1 i
      rcases hc with e | e | e | e | e <;> subst e
      · rw [e12, kset_ne (by decide), e11, kset_ne (by decide), e10, kset_ne (by decide), e9, kset_ne (by decide)]
        exact a8
      · rw [e12, kset_ne (by decide), e11, kset_ne (by decide), e10, kset_ne (by decide)]
        exact a9
      · rw [e12, kset_ne (by decide), e11, kset_ne (by decide)]
        exact a10
      · rw [e12, kset_ne (by decide)]
        exact a11
      · exact a12
    · rw [row r (by omega) hr7]
      have hc : (r = 1 ∨ r = 2 ∨ r = 3) ∧ i < 12 ∨ (r = 4 ∨ r = 5 ∨ r = 6 ∨ r = 7) ∧ i < 6 := by
        simp only [kUse, Bool.or_eq_true, Bool.and_eq_true, decide_eq_true_eq] at hu
        omega
      rcases hc with ⟨e | e | e, hi⟩ | ⟨e | e | e | e, hi⟩ <;> subst e
      · rw [e7, kput_off (by omega), e6, kput_off (by omega), e5, kput_off (by omega), e4, kput_off (by omega), e3, kput_off (by omega), e2, kput_off (by omega), e1, kput_at, sb_cpy0 hi]
      · rw [e7, kput_off (by omega), e6, kput_off (by omega), e5, kput_off (by omega), e4, kput_off (by omega), e3, kput_off (by omega), e2, kput_at, sb_cpy0 hi, b1o s1 o1 2 (by omega)]
      · rw [e7, kput_off (by omega), e6, kput_off (by omega), e5, kput_off (by omega), e4, kput_off (by omega), e3, kput_at, sb_cpy0 hi, b1o s2 o2 3 (by omega)]
      · rw [e7, kput_off (by omega), e6, kput_off (by omega), e5, kput_off (by omega), e4, kput_at, sb_cpy0 hi, b1o s3 o3 4 (by omega)]
      · rw [e7, kput_off (by omega), e6, kput_off (by omega), e5, kput_at, sb_cpy0 hi, b1o s4 o4 5 (by omega)]
      · rw [e7, kput_off (by omega), e6, kput_at, sb_cpy0 hi, b1o s5 o5 6 (by omega)]
      · rw [e7, kput_at, sb_cpy0 hi, b1o s6 o6 7 (by omega)]
  · rfl
