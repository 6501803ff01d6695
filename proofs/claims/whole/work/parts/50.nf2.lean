/-! pure: a year of a fen without what lies beside it -/
theorem nf_cost {nt w : Nat} {V : Nat → (Nat → Int32) → Int32} {A : kFn} (hO : sOk nt A) (hw : w < sWorks A) : sCost V (nf A) w = sCost V A w := by
  have h6 := hO.works.1
  obtain ⟨p, hp, ep⟩ := (hO.2.2.2.2 w hw).2.2.1
  unfold sCost
  rw [nf_w (by decide) (by decide) (by omega), nf_w (by decide) (by decide) (by omega), nf_w (by decide) (by decide) (by omega), nf_say (by rw [ep, k_cl (by omega)]; exact hp)]
theorem nf_pay {nt w : Nat} {V : Nat → (Nat → Int32) → Int32} {A : kFn} (hO : sOk nt A) (hw : w < sWorks A) : sPay V (nf A) w = nf (sPay V A w) := by
  unfold sPay
  rw [nf_cost hO hw, nf_0 (by decide) (by decide), nf_set (by decide)]
theorem nf_drain1 {nt w : Nat} {V : Nat → (Nat → Int32) → Int32} {A : kFn} (hO : sOk nt A) (hw : w < sWorks A) : sDrain1 V w (nf A) = nf (sDrain1 V w A) := by
  have h6 := hO.works.1
  unfold sDrain1
  rw [nf_w (by decide) (by decide) (by omega), nf_w (by decide) (by decide) (by omega), nf_w (by decide) (by decide) (by omega)]
  split
  · split
    · rw [nf_drawFrom (by omega), nf_drawFrom (by omega), nf_drawFrom (by omega)]
      have k1 := sDrawFrom_ok (c := A 6 w) hO hw
      have k2 := sDrawFrom_ok (c := A 6 w - 1) k1 (by rw [sWorks_drawFrom]; exact hw)
      have k3 := sDrawFrom_ok (c := A 6 w + 1) k2 (by rw [sWorks_drawFrom, sWorks_drawFrom]; exact hw)
      exact nf_pay k3 (by rw [sWorks_drawFrom, sWorks_drawFrom, sWorks_drawFrom]; exact hw)
    · rw [nf_drawFrom (by omega)]
      exact nf_pay (sDrawFrom_ok hO hw) (by rw [sWorks_drawFrom]; exact hw)
  · rfl
theorem nf_drain {nt : Nat} {V : Nat → (Nat → Int32) → Int32} {A : kFn} (hO : sOk nt A) : sDrain V (nf A) = nf (sDrain V A) := by
  unfold sDrain
  rw [nf_works]
  refine (nf_for (nt := nt) (f := sDrain1 V) (A := A) (sWorks A) (fun w hw B hB hW => ?_) hO).1
  have := sDrain1_ok (V := V) hB (show w < sWorks B by omega)
  exact ⟨nf_drain1 hB (by omega), this.1, this.2⟩
theorem nf_less {nt c : Nat} {V : Nat → (Nat → Int32) → Int32} {A : kFn} (hO : sOk nt A) (hc : c < 12) : sLess V (nf A) c = sLess V A c := by
  unfold sLess
  rw [nf_c (by decide) (by decide) hc, nf_c (by decide) (by decide) hc, nf_stand hO, nf_say hc]
theorem nf_shrink1 {nt c : Nat} {V : Nat → (Nat → Int32) → Int32} {A : kFn} (hO : sOk nt A) (hc : c < 12) : sShrink1 V c (nf A) = nf (sShrink1 V c A) := by
  unfold sShrink1
  rw [nf_less hO hc, nf_c (by decide) (by decide) hc, nf_c (by decide) (by decide) hc, nf_c (by decide) (by decide) hc, nf_set (kUse_c (by decide) (by decide) hc), nf_set (kUse_c (by decide) (by decide) hc)]
  split <;> rfl
theorem sShrink1_works {c : Nat} {V : Nat → (Nat → Int32) → Int32} {A : kFn} : sWorks (sShrink1 V c A) = sWorks A := by
  unfold sShrink1
  split
  · rw [sWorks_set (by decide), sWorks_set (by decide)]
  · rfl
theorem nf_shrink {nt : Nat} {V : Nat → (Nat → Int32) → Int32} {A : kFn} (hO : sOk nt A) : sShrink V (nf A) = nf (sShrink V A) :=
  (nf_for (nt := nt) (f := sShrink1 V) (A := A) 12 (fun c hc B hB hW => ⟨nf_shrink1 hB hc, sShrink1_ok hB hc, sShrink1_works⟩) hO).1
theorem nf_year {nt : Nat} {V : Nat → (Nat → Int32) → Int32} {A : kFn} (hO : sOk nt A) : sYear V (nf A) = nf (sYear V A) := by
  have h1 := sFlow_ok (sRain_ok (V := V) hO)
  have h2 : sOk nt (sDrain V (sFlow (sRain V A))) := (sDrainN_ok (V := V) h1 _ (Nat.le_refl _)).1
  unfold sYear
  rw [nf_rain hO, nf_flow (sRain_ok hO), nf_drain h1, nf_shrink h2, nf_0 (by decide) (by decide), nf_set (by decide)]
theorem nf_dryN {A : kFn} : ∀ c : Nat, c ≤ 12 → sDryN (nf A) c = sDryN A c := by
  intro c
  induction c with
  | zero => exact fun _ => rfl
  | succ c ih =>
    intro hc
    show (if nf A 3 c = 0 then sDryN (nf A) c ||| kshl 1 (nI c) else sDryN (nf A) c) = _
    rw [nf_c (by decide) (by decide) (by omega), ih (by omega)]
    rfl
theorem nf_dry {A : kFn} : sDry (nf A) = sDry A := nf_dryN 12 (by decide)
def sPourAll (m : Int32) (A : kFn) : kFn := kfor 12 (fun c B => sPour B c m) A
theorem sPourAll_ok {nt : Nat} {m : Int32} {A : kFn} (hm : 0 ≤ m ∧ m ≤ 9) (hO : sOk nt A) : sOk nt (sPourAll m A) ∧ sPourAll m (nf A) = nf (sPourAll m A) ∧ sWorks (sPourAll m A) = sWorks A := by
  have e := nf_for (nt := nt) (f := fun c B => sPour B c m) (A := A) 12 (fun c hc B hB hW => ⟨nf_pour hc, sPour_ok hB hc ?_, sWorks_set (by decide)⟩) hO
  · exact ⟨e.2.1, e.1, e.2.2⟩
  · have hw := (hB.1 c hc).2.2
    generalize B 3 c = w at hw ⊢
    grind
/-- a year by the texts W, by the fen's own rule -/
def sLive (W : Nat → Nat → (Nat → Int32) → Int32) (A : kFn) : kFn := sYear (W (A 0 12).toNatClampNeg) A
theorem sRain_works {V : Nat → (Nat → Int32) → Int32} {A : kFn} : ∀ n : Nat, sWorks (kfor n (fun c B => sPour B c (sSay V B 0 c (sStand B c))) A) = sWorks A := by
  intro n
  unfold sWorks
  rw [sRain_rule]
theorem sFlow_rule {A : kFn} : (sFlow A) 0 = A 0 := by
  unfold sFlow
  rw [sRiver_rule]
  have key : ∀ n : Nat, (kfor n (fun i B => sFlow1 B (11 - i)) A) 0 = A 0 := by
    intro n
    induction n with
    | zero => rfl
    | succ n ih => exact sFlow1_rule.trans ih
  exact key 11
theorem sShrink_row0 {V : Nat → (Nat → Int32) → Int32} {A : kFn} : ∀ n : Nat, (kfor n (sShrink1 V) A) 0 = A 0 := by
  intro n
  induction n with
  | zero => rfl
  | succ n ih =>
    refine Eq.trans ?_ ih
    show (sShrink1 V n (kfor n (sShrink1 V) A)) 0 = _
    unfold sShrink1
    split <;> rfl
theorem sDrain_rule {V : Nat → (Nat → Int32) → Int32} {A : kFn} : ∀ n : Nat, (kfor n (sDrain1 V) A) 0 12 = A 0 12 := by
  intro n
  induction n with
  | zero => rfl
  | succ n ih => exact sDrain1_rule.trans ih
theorem fset_ne {A : kFn} {r i j : Nat} {v : Int32} (h : j ≠ i) : fset A r i v r j = A r j := by
  unfold fset
  rw [if_pos rfl, if_neg h]
theorem sShrink_rule {V : Nat → (Nat → Int32) → Int32} {A : kFn} : (sShrink V A) 0 12 = A 0 12 := congrFun (sShrink_row0 12) 12
theorem sDrain_rule2 {V : Nat → (Nat → Int32) → Int32} {A : kFn} : (sDrain V A) 0 12 = A 0 12 := sDrain_rule _
theorem sRain_rule2 {V : Nat → (Nat → Int32) → Int32} {A : kFn} : (sRain V A) 0 12 = A 0 12 := congrFun (sRain_rule 12) 12
theorem sYear_rule {V : Nat → (Nat → Int32) → Int32} {A : kFn} : (sYear V A) 0 12 = A 0 12 := by
  unfold sYear
  rw [fset_ne (by decide), sShrink_rule, sDrain_rule2, sFlow_rule, sRain_rule2]
