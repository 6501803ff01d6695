/-! pure: the reference's fen σ against a fen A -/
def mR (A : kFn) (σ : kS) : Prop :=
  (∀ c : Nat, c < 12 → σ.1 4 (3 * c) = A 1 c ∧ σ.1 4 (3 * c + 1) = A 2 c ∧ σ.1 4 (3 * c + 2) = A 3 c) ∧ (σ.1 0 7 = A 0 8 ∧ σ.1 0 8 = A 0 9 ∧ σ.1 0 9 = A 0 10 ∧ σ.1 0 13 = A 0 11 ∧ σ.1 0 4 = A 0 12) ∧
  ∀ w : Nat, w < sWorks A → σ.1 5 w = A 4 w ∧ σ.1 6 (3 * w) = A 5 w ∧ σ.1 6 (3 * w + 1) = A 6 w ∧ σ.1 6 (3 * w + 2) = A 7 w
/-- what a year may change -/
def mO (σ σ' : kS) : Prop := (∀ p : Nat, p ≠ 0 → p ≠ 4 → σ'.1 p = σ.1 p) ∧ ∀ k : Nat, k ≠ 8 → k ≠ 9 → (k < 14 ∨ 28 < k) → σ'.1 0 k = σ.1 0 k
/-- what reading a text may change -/
def mS (σ σ' : kS) : Prop := (∀ p : Nat, p ≠ 0 → σ'.1 p = σ.1 p) ∧ ∀ k : Nat, (k < 20 ∨ 28 < k) → σ'.1 0 k = σ.1 0 k
theorem mO.rf {σ : kS} : mO σ σ := ⟨fun _ _ _ => rfl, fun _ _ _ _ => rfl⟩
theorem mO.tr {σ σ' σ'' : kS} (h : mO σ σ') (h' : mO σ' σ'') : mO σ σ'' := ⟨fun p h1 h2 => (h'.1 p h1 h2).trans (h.1 p h1 h2), fun k h1 h2 h3 => (h'.2 k h1 h2 h3).trans (h.2 k h1 h2 h3)⟩
theorem mO.set4 {σ : kS} {i : Nat} {v : Int32} : mO σ (kset σ 4 i v) := ⟨fun p h1 h2 => kset_off h2, fun k _ _ _ => by rw [kset_off (by decide)]⟩
theorem mO.set0 {σ : kS} {i : Nat} {v : Int32} (hi : i = 8 ∨ i = 9 ∨ (14 ≤ i ∧ i ≤ 28)) : mO σ (kset σ 0 i v) := ⟨fun p h1 h2 => kset_off h1, fun k h1 h2 h3 => kset_ne (by omega)⟩
theorem mS.o {σ σ' : kS} (h : mS σ σ') : mO σ σ' := ⟨fun p h1 _ => h.1 p h1, fun k _ _ h3 => h.2 k (by omega)⟩
def mEnv (σ : kS) : Nat → Int32 := fun k => match k with
  | 0 => σ.1 0 14
  | 1 => σ.1 0 15
  | 2 => σ.1 0 16
  | 3 => σ.1 0 17
  | 4 => σ.1 0 18
  | _ => σ.1 0 19
/-- text t of the rows r1 (bytes), r2 (sizes) says V -/
def mTx (r1 r2 : Nat → Int32) (t : Nat) (V : Nat → (Nat → Int32) → Int32) : Prop :=
  ∀ σ : kS, (∀ j : Nat, j < 160 → σ.1 1 (160 * t + j) = r1 (160 * t + j)) → σ.1 2 t = r2 t → ∀ which : Nat, which < 3 → ∀ Q : Int32 → kS → Prop, (∀ σ' : kS, mS σ σ' → Q (V which (mEnv σ)) σ') → wX5_read (nI t) (nI which) σ Q
theorem mTx.mv {r1 r2 r1' r2' : Nat → Int32} {t : Nat} {V : Nat → (Nat → Int32) → Int32} (h : mTx r1 r2 t V) (h1 : ∀ j : Nat, j < 160 → r1' (160 * t + j) = r1 (160 * t + j)) (h2 : r2' t = r2 t) : mTx r1' r2' t V :=
  fun σ e1 e2 => h σ (fun j hj => (e1 j hj).trans (h1 j hj)) (e2.trans h2)
theorem n_3 {c : Nat} : (3 : Int32) * nI c = nI (3 * c) := pk_mul 3 c
theorem n_31 {c : Nat} : (3 : Int32) * nI c + (1 : Int32) = nI (3 * c + 1) := by rw [n_3]; exact nI_add _ 1
theorem n_32 {c : Nat} : (3 : Int32) * nI c + (2 : Int32) = nI (3 * c + 2) := by rw [n_3]; exact nI_add _ 2
theorem k_kset4 {A : kFn} {σ : kS} {c : Nat} {v : Int32} (h : mR A σ) : mR (fset A 3 c v) (kset σ 4 (3 * c + 2) v) := by
  refine ⟨fun d hd => ?_, h.2.1, fun w hw => h.2.2 w hw⟩
  obtain ⟨h1, h2, h3⟩ := h.1 d hd
  refine ⟨?_, ?_, ?_⟩
  · rw [kset_ne (by omega)]
    exact h1
  · rw [kset_ne (by omega)]
    exact h2
  · show _ = (if d = c then v else A 3 d)
    by_cases e : d = c
    · subst e
      rw [kset_at, if_pos rfl]
    · rw [kset_ne (by omega), if_neg e]
      exact h3
theorem k_kset41 {A : kFn} {σ : kS} {c : Nat} {v : Int32} (h : mR A σ) : mR (fset A 2 c v) (kset σ 4 (3 * c + 1) v) := by
  refine ⟨fun d hd => ?_, h.2.1, fun w hw => h.2.2 w hw⟩
  obtain ⟨h1, h2, h3⟩ := h.1 d hd
  refine ⟨?_, ?_, ?_⟩
  · rw [kset_ne (by omega)]
    exact h1
  · show _ = (if d = c then v else A 2 d)
    by_cases e : d = c
    · subst e
      rw [kset_at, if_pos rfl]
    · rw [kset_ne (by omega), if_neg e]
      exact h2
  · rw [kset_ne (by omega)]
    exact h3
theorem k_kset40 {A : kFn} {σ : kS} {c : Nat} {v : Int32} (h : mR A σ) : mR (fset A 1 c v) (kset σ 4 (3 * c) v) := by
  refine ⟨fun d hd => ?_, h.2.1, fun w hw => h.2.2 w hw⟩
  obtain ⟨h1, h2, h3⟩ := h.1 d hd
  refine ⟨?_, ?_, ?_⟩
  · show _ = (if d = c then v else A 1 d)
    by_cases e : d = c
    · subst e
      rw [kset_at, if_pos rfl]
    · rw [kset_ne (by omega), if_neg e]
      exact h1
  · rw [kset_ne (by omega)]
    exact h2
  · rw [kset_ne (by omega)]
    exact h3
theorem k_scr {A : kFn} {σ : kS} {i : Nat} {v : Int32} (h : mR A σ) (hi : 14 ≤ i) : mR A (kset σ 0 i v) := by
  obtain ⟨a, ⟨b1, b2, b3, b4, b5⟩, c⟩ := h
  refine ⟨fun d hd => ?_, ⟨?_, ?_, ?_, ?_, ?_⟩, fun w hw => ?_⟩
  · rw [kset_off (by decide)]
    exact a d hd
  · rw [kset_ne (by omega)]; exact b1
  · rw [kset_ne (by omega)]; exact b2
  · rw [kset_ne (by omega)]; exact b3
  · rw [kset_ne (by omega)]; exact b4
  · rw [kset_ne (by omega)]; exact b5
  · rw [kset_off (by decide), kset_off (by decide)]
    exact c w hw
theorem k_mS {A : kFn} {σ σ' : kS} (h : mR A σ) (hs : mS σ σ') : mR A σ' := by
  obtain ⟨a, ⟨b1, b2, b3, b4, b5⟩, c⟩ := h
  refine ⟨fun d hd => ?_, ⟨?_, ?_, ?_, ?_, ?_⟩, fun w hw => ?_⟩
  · rw [hs.1 4 (by decide)]
    exact a d hd
  · rw [hs.2 7 (by omega)]; exact b1
  · rw [hs.2 8 (by omega)]; exact b2
  · rw [hs.2 9 (by omega)]; exact b3
  · rw [hs.2 13 (by omega)]; exact b4
  · rw [hs.2 4 (by omega)]; exact b5
  · rw [hs.1 5 (by decide), hs.1 6 (by decide)]
    exact c w hw
theorem m_within {x lo hi : Int32} {Q : Int32 → Prop} (h : Q (if lo ≤ x then (if x ≤ hi then x else hi) else lo)) : wX5_within x lo hi Q := by
  refine ⟨fun q => ⟨fun q2 => ?_, fun q2 => ?_⟩, fun q => ?_⟩
  · rw [if_pos q, if_pos q2] at h
    exact h
  · rw [if_pos q, if_neg q2] at h
    exact h
  · rw [if_neg q] at h
    exact h
theorem i_clamp {v m : Int32} (hm : 0 ≤ m) : (if 0 ≤ v then (if v ≤ m then v else m) else 0) = sClamp m v := by
  unfold sClamp
  split <;> split <;> split <;> grind
theorem i_pour {x : Int32} (h : 0 ≤ x) : (if 0 ≤ x then (if x ≤ 999 then x else 999) else 0) = (if x < 999 then x else 999) := by
  split <;> split <;> grind
theorem m_adds {A : kFn} {c : Nat} {m : Int32} {σ : kS} {Q : kS → Prop} (hR : mR A σ) (hc : c < 12) (hm : 0 ≤ A 3 c + m) (h : ∀ σ' : kS, mR (sPour A c m) σ' → mO σ σ' → Q σ') : wX5_adds (nI c) m σ Q := by
  have hi : vp_in (nI (3 * c + 2)) 36 := k_idx (by omega) (by decide)
  unfold wX5_adds
  rw [n_32, k_cl (by omega), (hR.1 c hc).2.2]
  refine ⟨hi, m_within ⟨hi, fun s2 e2 => ?_⟩⟩
  rw [i_pour hm] at e2
  exact h s2 (by rw [e2]; exact k_kset4 hR) (by rw [e2]; exact mO.set4)
theorem m_standOn {nt c : Nat} {A : kFn} {σ : kS} {Q : Int32 → kS → Prop} (hO : sOk nt A) (hR : mR A σ) (h : Q (sStand A c) σ) : wX5_standOn (nI c) σ Q := by
  obtain ⟨h6, hn⟩ := hO.works
  have hn : σ.1 0 13 = nI (sWorks A) := hR.2.1.2.2.2.1.trans hn
  intro P hP
  suffices key : ∀ k w : Nat, w + k = sWorks A → P (sCnt A (nI c) w) (nI w) from key (sWorks A) 0 (by omega)
  intro k
  induction k with
  | zero =>
    intro w hw
    have e : w = sWorks A := by omega
    refine hP _ _ ⟨fun _ => ?_, fun q => absurd (by rw [hn, e]; exact Int32.le_refl _) q⟩
    rw [e]
    exact h
  | succ k ih =>
    intro w hw
    refine hP _ _ ⟨fun q => absurd q (by rw [hn]; exact nI_ge (by omega) (by omega)), fun _ => ?_⟩
    rw [n_31, k_cl (by omega), (hR.2.2 w (by omega)).2.2.1]
    refine ⟨k_idx (by omega) (by decide), fun q x3 e3 x4 e4 => ?_, fun q x5 e5 x6 e6 => ?_⟩
    · have e := ih (w + 1) (by omega)
      rw [show sCnt A (nI c) (w + 1) = sCnt A (nI c) w from if_neg q] at e
      rw [e3, e4, k_n1, Int32.add_zero]
      exact e
    · have e := ih (w + 1) (by omega)
      rw [show sCnt A (nI c) (w + 1) = sCnt A (nI c) w + 1 from if_pos q] at e
      rw [e5, e6, k_n1]
      exact e
theorem sHeldN_up {A : kFn} {c w : Nat} (h : sHeldN A c w = true) : ∀ k : Nat, sHeldN A c (w + k) = true := by
  intro k
  induction k with
  | zero => exact h
  | succ k ih =>
    show (_ || sHeldN A c (w + k)) = true
    rw [ih, Bool.or_true]
theorem m_isHeld {nt c : Nat} {A : kFn} {σ : kS} {Q : Int32 → kS → Prop} (hO : sOk nt A) (hR : mR A σ) (hc : c < 12) (h1 : sHeld A c = true → Q 1 σ) (h0 : sHeld A c = false → Q 0 σ) : wX5_isHeld (nI c) σ Q := by
  obtain ⟨h6, hn⟩ := hO.works
  have hn : σ.1 0 13 = nI (sWorks A) := hR.2.1.2.2.2.1.trans hn
  intro P hP
  suffices key : ∀ k w : Nat, w + k = sWorks A → sHeldN A c w = false → P (nI w) from key (sWorks A) 0 (by omega) rfl
  intro k
  induction k with
  | zero =>
    intro w hw hf
    have e : w = sWorks A := by omega
    refine hP _ ⟨fun _ => h0 (by rw [e] at hf; exact hf), fun q => absurd (by rw [hn, e]; exact Int32.le_refl _) q⟩
  | succ k ih =>
    intro w hw hf
    obtain ⟨r1, r2, r3, r4⟩ := hR.2.2 w (by omega)
    obtain ⟨p, hp, ep⟩ := (hO.2.2.2.2 w (by omega)).2.2.1
    have skip : ¬ (A 7 w = 1 ∧ A 4 w = 5 ∧ A 6 w = nI c) → ∀ x : Int32, x = nI w + (1 : Int32) → P x := by
      intro z x ex
      rw [ex, k_n1]
      refine ih (w + 1) (by omega) ?_
      show ((decide (A 7 w = 1) && decide (A 4 w = 5) && decide (A 6 w = nI c)) || sHeldN A c w) = false
      rw [hf, Bool.or_false]
      by_cases a7 : A 7 w = 1 <;> by_cases a4 : A 4 w = 5 <;> by_cases a6 : A 6 w = nI c <;> simp [a7, a4, a6]
      exact z ⟨a7, a4, a6⟩
    refine hP _ ⟨fun q => absurd q (by rw [hn]; exact nI_ge (by omega) (by omega)), fun _ => ⟨k_idx (by omega) (by decide), ?_⟩⟩
    rw [n_31, n_32, k_cl (by omega), k_cl (by omega), k_cl (by omega), r1, r3, r4]
    refine ⟨fun q => skip (fun z => q z.2.1), fun q4 => ⟨k_idx (by omega) (by decide), fun q => skip (fun z => q z.1), fun q7 => ⟨k_idx (by omega) (by decide), fun q => skip (fun z => q z.2.2), fun q6 => h1 ?_⟩⟩⟩
    have hw1 : sHeldN A c (w + 1) = true := by
      show ((decide (A 7 w = 1) && decide (A 4 w = 5) && decide (A 6 w = nI c)) || sHeldN A c w) = true
      simp [q4, q7, q6]
    have := sHeldN_up hw1 (sWorks A - (w + 1))
    rw [show w + 1 + (sWorks A - (w + 1)) = sWorks A by omega] at this
    exact this
theorem m_says {A : kFn} {V : Nat → (Nat → Int32) → Int32} {c part t : Nat} {num : Int32} {σ : kS} {Q : Int32 → kS → Prop} (hR : mR A σ) (hc : c < 12) (hp : part < 3) (hV : mTx (σ.1 1) (σ.1 2) t V) (ht : A 0 12 = nI t) (h : ∀ σ' : kS, mR A σ' → mO σ σ' → Q (sSay V A part c num) σ') : wX5_says (nI part) (nI c) num σ Q := by
  unfold wX5_says
  rw [n_31, n_32, n_3, k_cl (by omega), k_cl (by omega), k_cl (by omega)]
  obtain ⟨r1, r2, r3⟩ := hR.1 c hc
  refine ⟨k_idx (by omega) (by decide), fun s1 e1 => ⟨k_idx (by omega) (by decide), fun s2 e2 s3 e3 s4 e4 => ⟨k_idx (by omega) (by decide), fun s5 e5 s6 e6 => ?_⟩⟩⟩
  have hR6 : mR A s6 := by
    rw [e6, e5, e4, e3, e2, e1]
    exact k_scr (k_scr (k_scr (k_scr (k_scr (k_scr hR (by decide)) (by decide)) (by decide)) (by decide)) (by decide)) (by decide)
  have hO6 : mO σ s6 := by
    rw [e6, e5, e4, e3, e2, e1]
    exact ((((mO.tr (mO.set0 (by omega)) (mO.set0 (by omega))).tr (mO.set0 (by omega))).tr (mO.set0 (by omega))).tr (mO.set0 (by omega))).tr (mO.set0 (by omega))
  have henv : mEnv s6 = sEnv A c num := by
    funext k
    have q1 : s1.1 0 14 = A 1 c := by rw [e1, kset_at]; exact r1
    have q2 : s2.1 0 15 = A 2 c := by rw [e2, kset_at, e1, kset_off (by decide)]; exact r2
    have q3 : s3.1 0 16 = A 0 9 := by rw [e3, kset_at, e2, kset_ne (by decide), e1, kset_ne (by decide)]; exact hR.2.1.2.1
    have q4 : s4.1 0 17 = num := by rw [e4, kset_at]
    have q5 : s5.1 0 18 = A 3 c := by rw [e5, kset_at, e4, kset_off (by decide), e3, kset_off (by decide), e2, kset_off (by decide), e1, kset_off (by decide)]; exact r3
    have q6 : s6.1 0 19 = nI c := by rw [e6, kset_at]
    match k with
    | 0 => show s6.1 0 14 = A 1 c; rw [e6, kset_ne (by decide), e5, kset_ne (by decide), e4, kset_ne (by decide), e3, kset_ne (by decide), e2, kset_ne (by decide)]; exact q1
    | 1 => show s6.1 0 15 = A 2 c; rw [e6, kset_ne (by decide), e5, kset_ne (by decide), e4, kset_ne (by decide), e3, kset_ne (by decide)]; exact q2
    | 2 => show s6.1 0 16 = A 0 9; rw [e6, kset_ne (by decide), e5, kset_ne (by decide), e4, kset_ne (by decide)]; exact q3
    | 3 => show s6.1 0 17 = num; rw [e6, kset_ne (by decide), e5, kset_ne (by decide)]; exact q4
    | 4 => show s6.1 0 18 = A 3 c; rw [e6, kset_ne (by decide)]; exact q5
    | (k + 5) => show s6.1 0 19 = nI c; exact q6
  rw [hR6.2.1.2.2.2.2, ht]
  refine hV s6 (fun j _ => congrFun (hO6.1 1 (by decide) (by decide)) _) (congrFun (hO6.1 2 (by decide) (by decide)) t) part hp _ (fun s7 hs7 => ?_)
  rw [henv]
  have fin := h s7 (k_mS hR6 hs7) (hO6.tr hs7.o)
  unfold sSay at fin
  refine ⟨fun q => ?_, fun q => ?_⟩
  · refine m_within ?_
    rw [i_clamp (by decide)]
    have e : kSaid part = 99 := by
      have h3 : part = 0 ∨ part = 1 ∨ part = 2 := by omega
      rcases h3 with rfl | rfl | rfl
      · rfl
      · exact absurd rfl q
      · rfl
    rw [e] at fin
    exact fin
  · refine m_within ?_
    rw [i_clamp (by decide)]
    have e : part = 1 := (nI_eq (b := 1) (by omega) (by decide)).mp q
    subst e
    exact fin
