/-! the reference looks at the token at hand -/
def wDiff (w w' : Nat) : Bool := decide (kWl w ≠ kWl w') || ((List.range 8).any fun j => decide (j < kWl w) && decide (kWc w j ≠ kWc w' j))
theorem wDiff_all : ∀ w : Nat, w < 12 → ∀ w' : Nat, w' < 12 → w ≠ w' → wDiff w w' = true := by decide +kernel
theorem wMat_at {T : Nat → Nat} {p w : Nat} : ∀ n : Nat, wMat T p w n = true → ∀ j : Nat, j < n → T (p + j) = kWc w j := by
  intro n
  induction n with
  | zero => exact fun _ j hj => absurd hj (by omega)
  | succ n ih =>
    intro h j hj
    have h : (wMat T p w n && decide (T (p + n) = kWc w n)) = true := h
    rw [Bool.and_eq_true, decide_eq_true_eq] at h
    by_cases e : j = n
    · rw [e]
      exact h.2
    · exact ih h.1 j (by omega)
theorem wMat_of {T : Nat → Nat} {p w : Nat} : ∀ n : Nat, (∀ j : Nat, j < n → T (p + j) = kWc w j) → wMat T p w n = true := by
  intro n
  induction n with
  | zero => exact fun _ => rfl
  | succ n ih =>
    intro h
    show (wMat T p w n && decide (T (p + n) = kWc w n)) = true
    rw [ih (fun j hj => h j (by omega)), decide_eq_true (h n (by omega))]
    rfl
theorem wEq_uni {T : Nat → Nat} {p e w w' : Nat} (hw : w < 12) (hw' : w' < 12) (h : wEq T p e w = true) (h' : wEq T p e w' = true) : w = w' := by
  by_cases q : w = w'
  · exact q
  · exfalso
    unfold wEq at h h'
    rw [Bool.and_eq_true, decide_eq_true_eq] at h h'
    have hd := wDiff_all w hw w' hw' q
    unfold wDiff at hd
    rw [Bool.or_eq_true, decide_eq_true_eq, List.any_eq_true] at hd
    rcases hd with z | ⟨j, -, z⟩
    · exact z (h.1.symm.trans h'.1)
    · rw [Bool.and_eq_true, decide_eq_true_eq, decide_eq_true_eq] at z
      have hl : kWl w = kWl w' := h.1.symm.trans h'.1
      exact z.2 ((wMat_at _ h.2 j z.1).symm.trans (wMat_at _ h'.2 j (by omega)))
theorem wTok_ne {T : Nat → Nat} {p e w : Nat} (h : wEq T p e w = true) : ∀ n : Nat, w < n → wTok T p e n ≠ 1 := by
  intro n
  induction n with
  | zero => exact fun z => absurd z (by omega)
  | succ n ih =>
    intro hn
    by_cases q : wEq T p e n = true
    · rw [show wTok T p e (n + 1) = 256 + n from if_pos q]
      omega
    · rw [show wTok T p e (n + 1) = wTok T p e n from if_neg q]
      refine ih ?_
      by_cases e2 : w = n
      · exact absurd (e2 ▸ h) q
      · omega
theorem wTok_iff {T : Nat → Nat} {p e w : Nat} (hw : w < 12) : wTok T p e 12 = 256 + w ↔ wEq T p e w = true := by
  constructor
  · intro h
    rcases wTok_in (T := T) (p := p) (e := e) 12 with z | ⟨w', z1, z2, z3⟩
    · omega
    · have : w' = w := by omega
      rw [← this]
      exact z3
  · intro h
    rcases wTok_in (T := T) (p := p) (e := e) 12 with z | ⟨w', z1, z2, z3⟩
    · exact absurd z (wTok_ne h 12 hw)
    · rw [z2, wEq_uni hw z1 h z3]
theorem mTk_code {T : Nat → Nat} {N p : Nat} {σ : kS} (h : mTk T N p σ) :
    (lCp T N p = 0 ∧ N ≤ p ∧ σ.1 0 23 = 0) ∨ (p < N ∧ lLe (T p) = true ∧ lCp T N p = wTok T p (lRun lLe T N p) 12 ∧ σ.1 0 23 = 1 ∧ σ.1 0 22 = nI (lRun lLe T N p) ∧ lEp T N p = lRun lLe T N p) ∨
    (lCp T N p = 2 ∧ σ.1 0 23 = 2 ∧ σ.1 0 22 = nI (lEp T N p) ∧ σ.2 = lN (lNum T p (lRun lDi T N p - p))) ∨
    (lCp T N p = T p ∧ lSi (T p) = true ∧ σ.1 0 23 = 3 ∧ σ.1 0 22 = nI (lEp T N p) ∧ σ.2 = lN (T p)) ∨ (lCp T N p = 1 ∧ σ.1 0 23 = 4) := by
  rcases h with ⟨h1, h2⟩ | ⟨h1, h2, h3, h4⟩ | ⟨h1, h2, h3, h4, h5⟩ | ⟨h1, h2, h3, h4, h5, h6, h7⟩ | ⟨h1, h2, h3, h4, h5⟩
  · exact Or.inl ⟨if_pos h1, h1, h2⟩
  · refine Or.inr (Or.inl ⟨h1, h2, ?_, h3, h4, ?_⟩)
    · exact (if_neg (by omega)).trans (if_pos h2)
    · exact (if_neg (by omega)).trans (if_pos h2)
  · have ec : lCp T N p = if lRun lDi T N p - p ≤ 4 then 2 else 1 := (if_neg (by omega)).trans ((if_neg h2).trans (if_pos h3))
    have ee : lEp T N p = lRun lDi T N p := (if_neg (by omega)).trans ((if_neg h2).trans (if_pos h3))
    rcases h5 with ⟨k1, k2, k3⟩ | ⟨k1, k2⟩
    · rw [if_pos k1] at ec
      exact Or.inr (Or.inr (Or.inl ⟨ec, k2, by rw [ee]; exact h4, k3⟩))
    · rw [if_neg k1] at ec
      exact Or.inr (Or.inr (Or.inr (Or.inr ⟨ec, k2⟩)))
  · have ec : lCp T N p = T p := (if_neg (by omega)).trans ((if_neg h2).trans ((if_neg h3).trans (if_pos h4)))
    have ee : lEp T N p = p + 1 := (if_neg (by omega)).trans ((if_neg h2).trans (if_neg h3))
    exact Or.inr (Or.inr (Or.inr (Or.inl ⟨ec, h4, h5, by rw [ee]; exact h7, h6⟩)))
  · have ec : lCp T N p = 1 := (if_neg (by omega)).trans ((if_neg h2).trans ((if_neg h3).trans (if_neg h4)))
    exact Or.inr (Or.inr (Or.inr (Or.inr ⟨ec, h5⟩)))
theorem m_isSign {T : Nat → Nat} {N F i b : Nat} {σ : kS} {Q : Int32 → kS → Prop} (hb : lSi b = true) (hA : mAt T N F i σ) (h1 : lC T N i = b → Q 1 σ) (h0 : ¬ lC T N i = b → Q 0 σ) : wX5_isSign (nI b) σ Q := by
  obtain ⟨a1, a2, a3, a4⟩ := hA
  have hb2 := lSi_in hb
  refine ⟨fun q => absurd a2 q, fun _ => ?_⟩
  have hno : ∀ v : Int32, σ.1 0 23 = v → ¬ v = 3 → ¬ lC T N i = b → (σ.1 0 23 ≠ (3 : Int32) → Q 0 σ) ∧ (σ.1 0 23 = (3 : Int32) → ((lg_cmp σ.2 (nI b).toInt64) ≠ 0 → Q (0 : Int32) σ) ∧ ((lg_cmp σ.2 (nI b).toInt64) = 0 → Q (1 : Int32) σ)) := fun v e hv hc => ⟨fun _ => h0 hc, fun q => absurd (e.symm.trans q) hv⟩
  rcases mTk_code a4 with ⟨k1, k2, k3⟩ | ⟨k0, k1, k2, k3, k4, k5⟩ | ⟨k1, k2, k3, k4⟩ | ⟨k1, k2, k3, k4, k5⟩ | ⟨k1, k2⟩
  · exact hno _ k3 (by decide) (fun z => by unfold lC at z; omega)
  · refine hno _ k3 (by decide) (fun z => ?_)
    unfold lC at z
    rcases wTok_in (T := T) (p := lP T N i) (e := lRun lLe T N (lP T N i)) 12 with y | ⟨w, y1, y2, y3⟩ <;> omega
  · exact hno _ k2 (by decide) (fun z => by unfold lC at z; omega)
  · refine ⟨fun q => absurd k3 q, fun _ => ?_⟩
    have hb3 := lSi_in k2
    rw [k5, nI_l (by omega)]
    refine ⟨fun q => h0 (fun z => q ?_), fun q => h1 ?_⟩
    · unfold lC at z
      rw [lg_cmp_eq, ← k1, z]
    · rw [lg_cmp_eq] at q
      have := (lN_eq (by omega) (by omega)).mp q
      unfold lC
      omega
  · exact hno _ k2 (by decide) (fun z => by unfold lC at z; omega)
def wLt (T : Nat → Nat) (p e j c : Nat) : Prop := (e ≤ p + j ∧ c = 0) ∨ (p + j < e ∧ T (p + j) = c)
theorem m_isLetter {T : Nat → Nat} {N F p e j c : Nat} {σ : kS} {Q : Int32 → kS → Prop} (hT : mTp T N F σ) (heN : e ≤ N) (hj : j < 100) (hp : p ≤ N) (hc : c < 256) (a22 : σ.1 0 22 = nI e) (a24 : σ.1 0 24 = nI p) (h1 : wLt T p e j c → Q 1 σ) (h0 : ¬ wLt T p e j c → Q 0 σ) : wX5_isLetter (nI j) (nI c) σ Q := by
  have hN := hT.1
  unfold wX5_isLetter
  rw [a22, a24, nI_add]
  refine ⟨fun q => ?_, fun q => ?_⟩
  · have hle := (nI_leI (by omega) (by omega)).mp q
    refine ⟨fun z => h0 (fun y => ?_), fun z => h1 (Or.inl ⟨hle, (nI_eq (b := 0) (by omega) (by decide)).mp z⟩)⟩
    rcases y with y | y
    · exact z (by rw [y.2]; rfl)
    · omega
  · have hlt : p + j < e := by
      rcases Nat.lt_or_ge (p + j) e with z | z
      · exact z
      · exact absurd (nI_le z (by omega)) q
    refine m_byteAt hT (by omega) ?_
    rw [if_pos (by omega)]
    have tb := (hT.2.2.2.2 (p + j) (by omega)).2
    refine ⟨fun z => h0 (fun y => ?_), fun z => h1 (Or.inr ⟨hlt, (nI_eqB tb hc).mp z⟩)⟩
    rcases y with y | y
    · omega
    · exact z (by rw [y.2])
theorem kWc_b : ∀ w : Nat, w < 12 → ∀ j : Nat, j < 8 → kWc w j < 256 ∧ (kWl w ≤ j → kWc w j = 0) := by decide +kernel
theorem wEq_letters {T : Nat → Nat} {N p w : Nat} (hw : w < 12) (hpN : p < N) (hl : lLe (T p) = true) : wEq T p (lRun lLe T N p) w = true ↔ lRun lLe T N p ≤ p + 8 ∧ ∀ j : Nat, j < 8 → wLt T p (lRun lLe T N p) j (kWc w j) := by
  obtain ⟨r1, r2, r3⟩ := lRun_in (p := lLe) (T := T) (N := N) (N - p) p (by omega)
  have r4 : p + 1 ≤ lRun lLe T N p := by
    rw [lRun_s hpN hl]
    exact (lRun_in (p := lLe) (T := T) (N := N) (N - (p + 1)) (p + 1) (by omega)).1
  obtain ⟨l7, l0, -, -⟩ := kWl_in w hw
  generalize lRun lLe T N p = e at r1 r2 r3 r4 ⊢
  unfold wEq
  rw [Bool.and_eq_true, decide_eq_true_eq]
  constructor
  · rintro ⟨h1, h2⟩
    refine ⟨by omega, fun j hj => ?_⟩
    by_cases q : j < kWl w
    · exact Or.inr ⟨by omega, wMat_at _ h2 j q⟩
    · exact Or.inl ⟨by omega, (kWc_b w hw j hj).2 (by omega)⟩
  · rintro ⟨h8, h⟩
    have up : e ≤ p + kWl w := by
      rcases h (kWl w) (by omega) with z | z
      · exact z.1
      · exfalso
        have b := r3 (p + kWl w) (by omega) z.1
        rw [z.2, (kWc_b w hw (kWl w) (by omega)).2 (Nat.le_refl _)] at b
        exact absurd b (by decide)
    have nz : ∀ j : Nat, j < kWl w → kWc w j ≠ 0 := fun j hj z => by
      have := (kWc_in w hw j hj).2.1
      omega
    have dn : p + kWl w ≤ e := by
      rcases h (kWl w - 1) (by omega) with z | z
      · exact absurd z.2 (nz _ (by omega))
      · omega
    refine ⟨by omega, wMat_of _ (fun j hj => ?_)⟩
    rcases h j (by omega) with z | z
    · exact absurd z.2 (nz j hj)
    · exact z.2
theorem m_isWord {T : Nat → Nat} {N F i w : Nat} {σ : kS} {Q : Int32 → kS → Prop} (hi : i ≤ N) (hw : w < 12) (hA : mAt T N F i σ) (h1 : lC T N i = 256 + w → Q 1 σ) (h0 : ¬ lC T N i = 256 + w → Q 0 σ) : wX5_isWord (nI (kWc w 0)) (nI (kWc w 1)) (nI (kWc w 2)) (nI (kWc w 3)) (nI (kWc w 4)) (nI (kWc w 5)) (nI (kWc w 6)) (nI (kWc w 7)) σ Q := by
  obtain ⟨a1, a2, a3, a4⟩ := hA
  have hN := a1.1
  have hp := (lP_in (T := T) hi).2
  refine ⟨fun q => absurd a2 q, fun _ => ?_⟩
  rcases mTk_code a4 with ⟨k1, k2, k3⟩ | ⟨k0, k1, k2, k3, k4, k5⟩ | ⟨k1, k2, k3, k4⟩ | ⟨k1, k2, k3, k4, k5⟩ | ⟨k1, k2⟩
  · exact ⟨fun _ => h0 (fun z => by unfold lC at z; omega), fun q => absurd (k3.symm.trans q) (by decide)⟩
  · refine ⟨fun q => absurd k3 q, fun _ => ?_⟩
    obtain ⟨r1, r2, r3⟩ := lRun_in (p := lLe) (T := T) (N := N) (N - lP T N i) (lP T N i) (by omega)
    have hiff := (wTok_iff (T := T) (p := lP T N i) (e := lRun lLe T N (lP T N i)) hw).trans (wEq_letters (N := N) hw k0 k1)
    have hc : lC T N i = wTok T (lP T N i) (lRun lLe T N (lP T N i)) 12 := k2
    rw [hc] at h1 h0
    have no : ∀ j : Nat, j < 8 → ¬ wLt T (lP T N i) (lRun lLe T N (lP T N i)) j (kWc w j) → Q 0 σ := fun j hj hn => h0 (fun z => hn ((hiff.mp z).2 j hj))
    have step : ∀ j : Nat, j < 8 → ∀ R : Int32 → kS → Prop, (wLt T (lP T N i) (lRun lLe T N (lP T N i)) j (kWc w j) → R 1 σ) → (¬ wLt T (lP T N i) (lRun lLe T N (lP T N i)) j (kWc w j) → R 0 σ) → wX5_isLetter (nI j) (nI (kWc w j)) σ R := fun j hj R y1 y0 => m_isLetter a1 r2 (by omega) hp (kWc_b w hw j hj).1 k4 a3 y1 y0
    rw [k4, a3, show nI (lP T N i) + (8 : Int32) = nI (lP T N i + 8) from nI_add _ 8]
    refine ⟨fun q => h0 (fun z => ?_), fun q => ?_⟩
    · have := (nI_ltI (by omega) (by omega)).mp q
      have := (hiff.mp z).1
      omega
    · have h8 : lRun lLe T N (lP T N i) ≤ lP T N i + 8 := by
        rcases Nat.lt_or_ge (lP T N i + 8) (lRun lLe T N (lP T N i)) with z | z
        · exact absurd (nI_lt z (by omega)) q
        · exact z
      refine step 0 (by decide) _ (fun y0 => ⟨fun z => absurd z (by decide), fun _ => ?_⟩) (fun y => ⟨fun _ => no 0 (by decide) y, fun z => absurd rfl z⟩)
      refine step 1 (by decide) _ (fun y1 => ⟨fun z => absurd z (by decide), fun _ => ?_⟩) (fun y => ⟨fun _ => no 1 (by decide) y, fun z => absurd rfl z⟩)
      refine step 2 (by decide) _ (fun y2 => ⟨fun z => absurd z (by decide), fun _ => ?_⟩) (fun y => ⟨fun _ => no 2 (by decide) y, fun z => absurd rfl z⟩)
      refine step 3 (by decide) _ (fun y3 => ⟨fun z => absurd z (by decide), fun _ => ?_⟩) (fun y => ⟨fun _ => no 3 (by decide) y, fun z => absurd rfl z⟩)
      refine step 4 (by decide) _ (fun y4 => ⟨fun z => absurd z (by decide), fun _ => ?_⟩) (fun y => ⟨fun _ => no 4 (by decide) y, fun z => absurd rfl z⟩)
      refine step 5 (by decide) _ (fun y5 => ⟨fun z => absurd z (by decide), fun _ => ?_⟩) (fun y => ⟨fun _ => no 5 (by decide) y, fun z => absurd rfl z⟩)
      refine step 6 (by decide) _ (fun y6 => ⟨fun z => absurd z (by decide), fun _ => ?_⟩) (fun y => ⟨fun _ => no 6 (by decide) y, fun z => absurd rfl z⟩)
      refine step 7 (by decide) _ (fun y7 => ⟨fun z => absurd z (by decide), fun _ => h1 (hiff.mpr ⟨h8, fun j hj => ?_⟩)⟩) (fun y => ⟨fun _ => no 7 (by decide) y, fun z => absurd rfl z⟩)
      rcases (by omega : j = 0 ∨ j = 1 ∨ j = 2 ∨ j = 3 ∨ j = 4 ∨ j = 5 ∨ j = 6 ∨ j = 7) with e | e | e | e | e | e | e | e <;> subst e
      · exact y0
      · exact y1
      · exact y2
      · exact y3
      · exact y4
      · exact y5
      · exact y6
      · exact y7
  · exact ⟨fun _ => h0 (fun z => by unfold lC at z; omega), fun q => absurd (k2.symm.trans q) (by decide)⟩
  · have hb3 := lSi_in k2
    exact ⟨fun _ => h0 (fun z => by unfold lC at z; omega), fun q => absurd (k3.symm.trans q) (by decide)⟩
  · exact ⟨fun _ => h0 (fun z => by unfold lC at z; omega), fun q => absurd (k2.symm.trans q) (by decide)⟩
/-- a fault was found at f -/
def mDd (f : Nat) (σ : kS) : Prop := σ.1 0 27 = 1 ∧ σ.1 0 28 = nI f
/-- what reading may change -/
def mFr (σ σ' : kS) : Prop := (∀ p : Nat, p ≠ 0 → σ'.1 p = σ.1 p) ∧ ∀ k : Nat, k ≠ 22 → k ≠ 23 → k ≠ 24 → k ≠ 27 → k ≠ 28 → σ'.1 0 k = σ.1 0 k
theorem mFr.rf {σ : kS} : mFr σ σ := ⟨fun _ _ => rfl, fun _ _ _ _ _ _ => rfl⟩
theorem mFr.tr {σ σ' σ'' : kS} (h : mFr σ σ') (h' : mFr σ' σ'') : mFr σ σ'' := ⟨fun p hp => (h'.1 p hp).trans (h.1 p hp), fun k k1 k2 k3 k4 k5 => (h'.2 k k1 k2 k3 k4 k5).trans (h.2 k k1 k2 k3 k4 k5)⟩
theorem mNf.f {σ σ' : kS} (h : mNf σ σ') : mFr σ σ' := ⟨h.1, fun k k1 k2 k3 _ _ => h.2 k k1 k2 k3⟩
theorem mFr.env {σ σ' : kS} (h : mFr σ σ') : mEnv σ' = mEnv σ := by
  funext k
  match k with
  | 0 => exact h.2 14 (by decide) (by decide) (by decide) (by decide) (by decide)
  | 1 => exact h.2 15 (by decide) (by decide) (by decide) (by decide) (by decide)
  | 2 => exact h.2 16 (by decide) (by decide) (by decide) (by decide) (by decide)
  | 3 => exact h.2 17 (by decide) (by decide) (by decide) (by decide) (by decide)
  | 4 => exact h.2 18 (by decide) (by decide) (by decide) (by decide) (by decide)
  | (k + 5) => exact h.2 19 (by decide) (by decide) (by decide) (by decide) (by decide)
theorem m_fail {T : Nat → Nat} {N F i : Nat} {σ : kS} {Q : kS → Prop} (hA : mAt T N F i σ) (h : ∀ s : kS, mFr σ s → mDd (lP T N i) s → Q s) : wX5_fail σ Q := by
  obtain ⟨a1, a2, a3, a4⟩ := hA
  refine ⟨fun q => absurd a2 q, fun _ s2 e2 s3 e3 => h s3 ⟨fun p hp => ?_, fun k _ _ _ k4 k5 => ?_⟩ ⟨?_, ?_⟩⟩
  · rw [e3, kset_off hp, e2, kset_off hp]
  · rw [e3, kset_ne k5, e2, kset_ne k4]
  · rw [e3, kset_ne (by decide), e2, kset_at]
  · rw [e3, kset_at, e2, kset_ne (by decide)]
    exact a3
theorem mDd.n {f : Nat} {σ : kS} (h : mDd f σ) : ¬ σ.1 0 27 = 0 := by rw [h.1]; decide
theorem m_failD {f : Nat} {σ : kS} {Q : kS → Prop} (hD : mDd f σ) (h : Q σ) : wX5_fail σ Q := ⟨fun _ => h, fun q => absurd q hD.n⟩
theorem m_isSignD {f : Nat} {b : Int32} {σ : kS} {Q : Int32 → kS → Prop} (hD : mDd f σ) (h : Q 0 σ) : wX5_isSign b σ Q := ⟨fun _ => h, fun q => absurd q hD.n⟩
theorem m_isWordD {f : Nat} {a b c d e g j k : Int32} {σ : kS} {Q : Int32 → kS → Prop} (hD : mDd f σ) (h : Q 0 σ) : wX5_isWord a b c d e g j k σ Q := ⟨fun _ => h, fun q => absurd q hD.n⟩
/-- the next token behind one that stands -/
theorem m_nextA {T : Nat → Nat} {N F i : Nat} {σ : kS} {Q : kS → Prop} (hi : i ≤ N) (hA : mAt T N F i σ) (h0 : lC T N i ≠ 0) (h1 : lC T N i ≠ 1) (h : ∀ s : kS, mNf σ s → mAt T N F (lE T N i) s → Q s) : wX5_next σ Q := by
  obtain ⟨a1, a2, a3, a4⟩ := hA
  have e : σ.1 0 22 = nI (lE T N i) := by
    rcases mTk_code a4 with ⟨k1, k2, k3⟩ | ⟨k0, k1, k2, k3, k4, k5⟩ | ⟨k1, k2, k3, k4⟩ | ⟨k1, k2, k3, k4, k5⟩ | ⟨k1, k2⟩
    · exact absurd k1 h0
    · exact k4.trans (by rw [← k5]; rfl)
    · exact k3
    · exact k4
    · exact absurd k1 h1
  refine m_next a1 (lE_in hi).2.1 e (fun s o p t => h s o ⟨a1.nf o, ?_, p, t⟩)
  rw [o.2 27 (by decide) (by decide) (by decide)]
  exact a2
theorem mAt.num {T : Nat → Nat} {N F i : Nat} {σ : kS} (hA : mAt T N F i σ) : (σ.1 0 23 = 2 ↔ lC T N i = 2) ∧ (lC T N i = 2 → σ.2.toInt32 = nI (lA T N i)) := by
  obtain ⟨a1, a2, a3, a4⟩ := hA
  rcases mTk_code a4 with ⟨k1, k2, k3⟩ | ⟨k0, k1, k2, k3, k4, k5⟩ | ⟨k1, k2, k3, k4⟩ | ⟨k1, k2, k3, k4, k5⟩ | ⟨k1, k2⟩
  · exact ⟨⟨fun z => absurd (k3.symm.trans z) (by decide), fun z => by unfold lC at z; omega⟩, fun z => by unfold lC at z; omega⟩
  · have no : ¬ lC T N i = 2 := fun z => by
      unfold lC at z
      rcases wTok_in (T := T) (p := lP T N i) (e := lRun lLe T N (lP T N i)) 12 with y | ⟨w, y1, y2, y3⟩ <;> omega
    exact ⟨⟨fun z => absurd (k3.symm.trans z) (by decide), fun z => absurd z no⟩, fun z => absurd z no⟩
  · refine ⟨⟨fun _ => k1, fun _ => k2⟩, fun _ => ?_⟩
    rw [k4, lN_i]
    rfl
  · have hb3 := lSi_in k2
    have no : ¬ lC T N i = 2 := fun z => by unfold lC at z; omega
    exact ⟨⟨fun z => absurd (k3.symm.trans z) (by decide), fun z => absurd z no⟩, fun z => absurd z no⟩
  · exact ⟨⟨fun z => absurd (k2.symm.trans z) (by decide), fun z => by unfold lC at z; omega⟩, fun z => by unfold lC at z; omega⟩
/-- a word stands there, or the code tells a sign, a number, the end, or nothing -/
theorem mAt.word {T : Nat → Nat} {N F i : Nat} {σ : kS} (hA : mAt T N F i σ) : (σ.1 0 23 = 1 → lC T N i = 1 ∨ 256 ≤ lC T N i) ∧ (256 ≤ lC T N i → σ.1 0 23 = 1) ∧ (σ.1 0 23 = 0 ↔ lC T N i = 0) := by
  obtain ⟨a1, a2, a3, a4⟩ := hA
  rcases mTk_code a4 with ⟨k1, k2, k3⟩ | ⟨k0, k1, k2, k3, k4, k5⟩ | ⟨k1, k2, k3, k4⟩ | ⟨k1, k2, k3, k4, k5⟩ | ⟨k1, k2⟩
  · exact ⟨fun z => absurd (k3.symm.trans z) (by decide), fun z => by unfold lC at z; omega, fun _ => k1, fun _ => k3⟩
  · have hw : lC T N i = 1 ∨ 256 ≤ lC T N i := by
      unfold lC
      rcases wTok_in (T := T) (p := lP T N i) (e := lRun lLe T N (lP T N i)) 12 with y | ⟨w, y1, y2, y3⟩ <;> omega
    exact ⟨fun _ => hw, fun _ => k3, fun z => absurd (k3.symm.trans z) (by decide), fun z => by omega⟩
  · exact ⟨fun z => absurd (k2.symm.trans z) (by decide), fun z => by unfold lC at z; omega, fun z => absurd (k2.symm.trans z) (by decide), fun z => by unfold lC at z; omega⟩
  · have hb3 := lSi_in k2
    exact ⟨fun z => absurd (k3.symm.trans z) (by decide), fun z => by unfold lC at z; omega, fun z => absurd (k3.symm.trans z) (by decide), fun z => by unfold lC at z; omega⟩
  · exact ⟨fun z => absurd (k2.symm.trans z) (by decide), fun z => by unfold lC at z; omega, fun z => absurd (k2.symm.trans z) (by decide), fun z => by unfold lC at z; omega⟩
theorem m_name {T : Nat → Nat} {N F i : Nat} {σ : kS} {Q : Int32 → kS → Prop} (hi : i ≤ N) (hA : mAt T N F i σ) (h1 : 262 ≤ lC T N i → Q (sName (mEnv σ) (kNm (lC T N i))) σ) (h0 : ¬ 262 ≤ lC T N i → ∀ s : kS, mFr σ s → mDd (lP T N i) s → Q 0 s) : wX5_name σ Q := by
  have hc : lC T N i < 268 := lC_in
  have yes : ∀ w : Nat, 6 ≤ w → w < 12 → lC T N i = 256 + w → ∀ v : Int32, sName (mEnv σ) (kNm (256 + w)) = v → Q v σ := fun w w6 w12 e v hv => by
    have := h1 (by omega)
    rw [e, hv] at this
    exact this
  refine m_isWord (w := 6) hi (by decide) hA (fun e => ⟨fun z => absurd z (by decide), fun _ => yes 6 (by decide) (by decide) e _ rfl⟩) (fun e6 => ⟨fun _ => ?_, fun z => absurd rfl z⟩)
  refine m_isWord (w := 7) hi (by decide) hA (fun e => ⟨fun z => absurd z (by decide), fun _ => yes 7 (by decide) (by decide) e _ rfl⟩) (fun e7 => ⟨fun _ => ?_, fun z => absurd rfl z⟩)
  refine m_isWord (w := 8) hi (by decide) hA (fun e => ⟨fun z => absurd z (by decide), fun _ => yes 8 (by decide) (by decide) e _ rfl⟩) (fun e8 => ⟨fun _ => ?_, fun z => absurd rfl z⟩)
  refine m_isWord (w := 9) hi (by decide) hA (fun e => ⟨fun z => absurd z (by decide), fun _ => yes 9 (by decide) (by decide) e _ rfl⟩) (fun e9 => ⟨fun _ => ?_, fun z => absurd rfl z⟩)
  refine m_isWord (w := 10) hi (by decide) hA (fun e => ⟨fun z => absurd z (by decide), fun _ => yes 10 (by decide) (by decide) e _ rfl⟩) (fun e10 => ⟨fun _ => ?_, fun z => absurd rfl z⟩)
  refine m_isWord (w := 11) hi (by decide) hA (fun e => ⟨fun z => absurd z (by decide), fun _ => yes 11 (by decide) (by decide) e _ rfl⟩) (fun e11 => ⟨fun _ => ?_, fun z => absurd rfl z⟩)
  exact m_fail hA (h0 (by omega))
