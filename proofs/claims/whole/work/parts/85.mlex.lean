/-! the reference's tokens -/
/-- the text at F .. is at hand -/
def mTp (T : Nat → Nat) (N F : Nat) (σ : kS) : Prop := N ≤ 160 ∧ F + 160 ≤ 960 ∧ σ.1 0 20 = nI F ∧ σ.1 0 21 = nI N ∧ ∀ j : Nat, j < N → σ.1 1 (F + j) = nI (T j) ∧ T j < 256
def mNf (σ σ' : kS) : Prop := (∀ p : Nat, p ≠ 0 → σ'.1 p = σ.1 p) ∧ ∀ k : Nat, k ≠ 22 → k ≠ 23 → k ≠ 24 → σ'.1 0 k = σ.1 0 k
theorem mNf.rf {σ : kS} : mNf σ σ := ⟨fun _ _ => rfl, fun _ _ _ _ => rfl⟩
theorem mNf.tr {σ σ' σ'' : kS} (h : mNf σ σ') (h' : mNf σ' σ'') : mNf σ σ'' := ⟨fun p hp => (h'.1 p hp).trans (h.1 p hp), fun k k1 k2 k3 => (h'.2 k k1 k2 k3).trans (h.2 k k1 k2 k3)⟩
theorem mNf.set {σ : kS} {i : Nat} {v : Int32} (hi : i = 22 ∨ i = 23 ∨ i = 24) : mNf σ (kset σ 0 i v) := ⟨fun p hp => kset_off hp, fun k _ _ _ => kset_ne (by omega)⟩
theorem mNf.setL {σ : kS} {v : Int64} : mNf σ (ksetL σ v) := ⟨fun _ _ => rfl, fun _ _ _ _ => rfl⟩
theorem mTp.nf {T : Nat → Nat} {N F : Nat} {σ σ' : kS} (h : mTp T N F σ) (ho : mNf σ σ') : mTp T N F σ' := by
  refine ⟨h.1, h.2.1, ?_, ?_, fun j hj => ?_⟩
  · rw [ho.2 20 (by decide) (by decide) (by decide)]; exact h.2.2.1
  · rw [ho.2 21 (by decide) (by decide) (by decide)]; exact h.2.2.2.1
  · rw [ho.1 1 (by decide)]; exact h.2.2.2.2 j hj
theorem m_byteAt {T : Nat → Nat} {N F i : Nat} {σ : kS} {Q : Int32 → kS → Prop} (hT : mTp T N F σ) (hi : i < 100000) (h : Q (if i < N then nI (T i) else -1) σ) : wX5_byteAt (nI i) σ Q := by
  obtain ⟨t1, t2, t3, t4, t5⟩ := hT
  unfold wX5_byteAt
  rw [t4, t3, nI_add]
  refine ⟨fun q => ?_, fun q => ?_⟩
  · have := (nI_leI (by omega) (by omega)).mp q
    rw [if_neg (by omega)] at h
    exact h
  · have hlt : i < N := by
      rcases Nat.lt_or_ge i N with z | z
      · exact z
      · exact absurd (nI_le z (by omega)) q
    rw [if_pos hlt] at h
    rw [k_cl (by omega), (t5 i hlt).1]
    exact ⟨k_idx (by omega) (by decide), h⟩
def mTk (T : Nat → Nat) (N p : Nat) (σ : kS) : Prop :=
  (N ≤ p ∧ σ.1 0 23 = 0) ∨ (p < N ∧ lLe (T p) = true ∧ σ.1 0 23 = 1 ∧ σ.1 0 22 = nI (lRun lLe T N p)) ∨
  (p < N ∧ ¬ lLe (T p) = true ∧ lDi (T p) = true ∧ σ.1 0 22 = nI (lRun lDi T N p) ∧ ((lRun lDi T N p - p ≤ 4 ∧ σ.1 0 23 = 2 ∧ σ.2 = lN (lNum T p (lRun lDi T N p - p))) ∨ (¬ lRun lDi T N p - p ≤ 4 ∧ σ.1 0 23 = 4))) ∨
  (p < N ∧ ¬ lLe (T p) = true ∧ ¬ lDi (T p) = true ∧ lSi (T p) = true ∧ σ.1 0 23 = 3 ∧ σ.2 = lN (T p) ∧ σ.1 0 22 = nI (p + 1)) ∨
  (p < N ∧ ¬ lLe (T p) = true ∧ ¬ lDi (T p) = true ∧ ¬ lSi (T p) = true ∧ σ.1 0 23 = 4)
def mAt (T : Nat → Nat) (N F i : Nat) (σ : kS) : Prop := mTp T N F σ ∧ σ.1 0 27 = 0 ∧ σ.1 0 24 = nI (lP T N i) ∧ mTk T N (lP T N i) σ
theorem m_inB {b lo hi : Nat} {L H : Int64} {Q : Int32 → Prop} (hb : b < 256) (hlo : lo < 256) (hhi : hi < 256) (hL : (nI lo).toInt64 = L) (hH : (nI hi).toInt64 = H) (h1 : (lo ≤ b ∧ b ≤ hi) → Q 1) (h0 : ¬ (lo ≤ b ∧ b ≤ hi) → Q 0) : wX5_in (nI b).toInt64 L H Q :=
  m_in32 hL hH (fun z => h1 ⟨(nI_leI (by omega) (by omega)).mp z.1, (nI_leI (by omega) (by omega)).mp z.2⟩) (fun z => h0 (fun y => z ⟨nI_le y.1 (by omega), nI_le y.2 (by omega)⟩))
theorem m_letter {b : Nat} {Q : Int32 → Prop} (hb : b < 256) (h1 : lLe b = true → Q 1) (h0 : ¬ lLe b = true → Q 0) : wX5_in (nI b).toInt64 (97 : Int64) (122 : Int64) Q :=
  m_inB (lo := 97) (hi := 122) hb (by decide) (by decide) (by decide) (by decide) (fun z => h1 (by simp [lLe]; exact z)) (fun z => h0 (fun y => z (by simp [lLe] at y; exact y)))
theorem m_digit {b : Nat} {Q : Int32 → Prop} (hb : b < 256) (h1 : lDi b = true → Q 1) (h0 : ¬ lDi b = true → Q 0) : wX5_in (nI b).toInt64 (48 : Int64) (57 : Int64) Q :=
  m_inB (lo := 48) (hi := 57) hb (by decide) (by decide) (by decide) (by decide) (fun z => h1 (by simp [lDi]; exact z)) (fun z => h0 (fun y => z (by simp [lDi] at y; exact y)))
theorem m_none {L H : Int64} {Q : Int32 → Prop} (hL : (0 : Int32).toInt64 < L) (h0 : Q 0) : wX5_in (-1 : Int32).toInt64 L H Q := by
  refine m_in ?_
  rw [if_pos (Int64.lt_trans (i_l64.mpr (by decide)) hL)]
  exact h0
theorem m_words {T : Nat → Nat} {N F p : Nat} {σ : kS} {Q : kS → Prop} (hT : mTp T N F σ) (hp : p < N) (ha : σ.1 0 22 = nI p) (h : ∀ s : kS, s = kset σ 0 22 (nI (lRun lLe T N p)) → Q s) : wX5_next_100 Q σ := by
  have hN := hT.1
  intro P hP
  suffices key : ∀ r i : Nat, i + r = N → lRun lLe T N i = lRun lLe T N p → ∀ u : kS, u = kset σ 0 22 (nI i) → P u from key (N - p) p (by omega) rfl σ (by
    rw [← ha]
    refine Prod.ext ?_ rfl
    funext q
    by_cases e : q = 0
    · subst e
      funext j
      by_cases e2 : j = 22
      · subst e2
        rw [kset_at]
      · rw [kset_ne e2]
    · rw [kset_off e])
  intro r
  induction r with
  | zero =>
    intro i hi hr u hu
    have e : i = N := by omega
    have Tu : mTp T N F u := hT.nf (by rw [hu]; exact mNf.set (by omega))
    have au : u.1 0 22 = nI i := by rw [hu, kset_at]
    refine hP _ ?_
    rw [au]
    refine m_byteAt Tu (by omega) ?_
    rw [if_neg (by omega)]
    refine m_none (by decide) ⟨fun _ => h u ?_, fun z => absurd rfl z⟩
    rw [hu, ← hr, lRun_0 (by omega)]
  | succ r ih =>
    intro i hi hr u hu
    have Tu : mTp T N F u := hT.nf (by rw [hu]; exact mNf.set (by omega))
    have au : u.1 0 22 = nI i := by rw [hu, kset_at]
    refine hP _ ?_
    rw [au]
    refine m_byteAt Tu (by omega) ?_
    rw [if_pos (by omega)]
    have tb := (hT.2.2.2.2 i (by omega)).2
    refine m_letter tb (fun hl => ⟨fun z => absurd z (by decide), fun _ s45 e45 => ?_⟩) (fun hl => ⟨fun _ => h u ?_, fun z => absurd rfl z⟩)
    · rw [au, k_n1] at e45
      refine ih (i + 1) (by omega) ?_ s45 ?_
      · rw [← hr]
        exact (lRun_s (by omega) hl).symm
      · rw [e45, hu, kset_kset]
    · rw [hu, ← hr, lRun_0 (fun z => hl z.2)]
theorem ksetL_1 {σ : kS} {w : Int64} : (ksetL σ w).1 = σ.1 := rfl
theorem m_digits {T : Nat → Nat} {N F p : Nat} {σ : kS} {Q : kS → Prop} (hT : mTp T N F σ) (hp : p ≤ N) (ha : σ.1 0 22 = nI p) (h0 : σ.2 = 0) (h : ∀ s : kS, mNf σ s → s.1 0 24 = σ.1 0 24 → s.1 0 22 = nI (lRun lDi T N p) → s.1 0 23 = (if lRun lDi T N p - p ≤ 4 then 2 else 4) → (lRun lDi T N p - p ≤ 4 → s.2 = lN (lNum T p (lRun lDi T N p - p))) → Q s) : wX5_next_160 Q (0 : Int32) σ := by
  have hN := hT.1
  intro P hP
  suffices key : ∀ r i : Nat, i + r = N → p ≤ i → lRun lDi T N i = lRun lDi T N p → ∀ u : kS, mNf σ u → u.1 0 24 = σ.1 0 24 → u.1 0 22 = nI i → (i - p ≤ 4 → u.2 = lN (lNum T p (i - p))) → P u (nI (i - p)) from by
    have := key (N - p) p (by omega) (Nat.le_refl _) rfl σ mNf.rf rfl ha (fun _ => by rw [h0, Nat.sub_self]; rfl)
    rw [Nat.sub_self] at this
    exact this
  have stop : ∀ i : Nat, p ≤ i → i ≤ N → lRun lDi T N p = i → ∀ u : kS, mNf σ u → u.1 0 24 = σ.1 0 24 → u.1 0 22 = nI i → (i - p ≤ 4 → u.2 = lN (lNum T p (i - p))) → ((nI (i - p)) ≤ (4 : Int32) → wX5_next_246 Q (2 : Int32) u) ∧ (¬ (nI (i - p)) ≤ (4 : Int32) → wX5_next_246 Q (4 : Int32) u) := by
    intro i h1 h2 h3 u ou tu au nu
    have fin : ∀ v : Int32, v = (if i - p ≤ 4 then 2 else 4) → wX5_next_246 Q v u := by
      intro v hv s46 e46
      refine h s46 ?_ ?_ ?_ ?_ (fun z => ?_)
      · rw [e46]
        exact ou.tr (mNf.set (by omega))
      · rw [e46, kset_ne (by decide)]
        exact tu
      · rw [e46, kset_ne (by decide), h3]
        exact au
      · rw [e46, kset_at, h3, hv]
      · rw [e46, h3]
        rw [h3] at z
        exact nu z
    refine ⟨fun q => fin _ ?_, fun q => fin _ ?_⟩
    · have := (nI_leI (b := 4) (by omega) (by decide)).mp q
      rw [if_pos this]
    · have : ¬ i - p ≤ 4 := fun z => q (nI_le (b := 4) z (by decide))
      rw [if_neg this]
  intro r
  induction r with
  | zero =>
    intro i hi hpi hr u ou tu au nu
    have Tu := hT.nf ou
    refine hP _ _ ?_
    rw [au]
    refine m_byteAt Tu (by omega) ?_
    rw [if_neg (by omega)]
    refine m_none (by decide) ⟨fun _ => stop i hpi (by omega) ?_ u ou tu au nu, fun z => absurd rfl z⟩
    rw [← hr]
    exact lRun_0 (by omega)
  | succ r ih =>
    intro i hi hpi hr u ou tu au nu
    have Tu := hT.nf ou
    refine hP _ _ ?_
    rw [au]
    refine m_byteAt Tu (by omega) ?_
    rw [if_pos (by omega)]
    have tb := (hT.2.2.2.2 i (by omega)).2
    refine m_digit tb (fun hl => ⟨fun z => absurd z (by decide), fun _ => ?_⟩) (fun hl => ⟨fun _ => stop i hpi (by omega) ?_ u ou tu au nu, fun z => absurd rfl z⟩)
    · have hd : 48 ≤ T i := by
        simp only [lDi, Bool.and_eq_true, decide_eq_true_eq] at hl
        exact hl.1
      have more : ∀ v : Int64, (i + 1 - p ≤ 4 → v = lN (lNum T p (i + 1 - p))) → wX5_next_216 Q P (nI (i - p)) v u := by
        intro v hv s47 e47 x48 e48 s49 e49
        have a47 : s47.1 0 22 = nI i := by rw [e47]; exact au
        rw [a47, k_n1] at e49
        rw [e48, k_n1, show i - p + 1 = i + 1 - p by omega]
        refine ih (i + 1) (by omega) (by omega) ?_ s49 ?_ ?_ ?_ (fun z => ?_)
        · rw [← hr]
          exact (lRun_s (by omega) hl).symm
        · rw [e49, e47]
          exact (ou.tr mNf.setL).tr (mNf.set (by omega))
        · rw [e49, kset_ne (by decide), e47]
          exact tu
        · rw [e49, kset_at]
        · rw [e49, e47]
          exact hv z
      refine ⟨fun q => more _ (fun z => ?_), fun q => ?_⟩
      · have := (nI_leI (a := 4) (by decide) (by omega)).mp q
        omega
      · have hlt : i - p < 4 := by
          rcases Nat.lt_or_ge (i - p) 4 with z | z
          · exact z
          · exact absurd (nI_le (a := 4) z (by omega)) q
        rw [au]
        refine m_byteAt Tu (by omega) ?_
        rw [if_pos (by omega)]
        refine more _ (fun _ => ?_)
        rw [nu (by omega), nI_l (by omega), show (10 : Int64) = lN 10 from rfl, lN_mul, lN_add, show (48 : Int64) = lN 48 from rfl, lN_sub (by omega), show i + 1 - p = (i - p) + 1 by omega]
        show lN (10 * lNum T p (i - p) + T i - 48) = lN (lNum T p (i - p) * 10 + T (p + (i - p)) - 48)
        rw [show p + (i - p) = i by omega, Nat.mul_comm]
    · rw [← hr]
      exact lRun_0 (fun z => hl z.2)
theorem m_next {T : Nat → Nat} {N F i : Nat} {σ : kS} {Q : kS → Prop} (hT : mTp T N F σ) (hi : i ≤ N) (ha : σ.1 0 22 = nI i) (h : ∀ s : kS, mNf σ s → s.1 0 24 = nI (lP T N i) → mTk T N (lP T N i) s → Q s) : wX5_next σ Q := by
  have hN := hT.1
  intro P hP
  have stop : ∀ p : Nat, p ≤ N → lP T N i = p → ∀ u : kS, mNf σ u → u.1 0 22 = nI p → ∀ s7 : kS, s7 = kset u 0 24 (u.1 0 22) → wX5_byteAt (s7.1 0 22) s7 (fun r9 s8 => ∀ s10 : kS, s10 = kset s8 0 23 (4 : Int32) → (0 ≤ r9 → wX5_in r9.toInt64 (97 : Int64) (122 : Int64) (fun r12 => (r12 = 0 → wX5_in r9.toInt64 (48 : Int64) (57 : Int64) (fun r14 => (r14 = 0 → (r9 = (40 : Int32) → wX5_next_300 Q r9 s10) ∧ (¬ r9 = (40 : Int32) → (r9 = (41 : Int32) → wX5_next_300 Q r9 s10) ∧ (¬ r9 = (41 : Int32) → (r9 = (59 : Int32) → wX5_next_300 Q r9 s10) ∧ (¬ r9 = (59 : Int32) → (r9 = (43 : Int32) → wX5_next_300 Q r9 s10) ∧ (¬ r9 = (43 : Int32) → (r9 = (45 : Int32) → wX5_next_300 Q r9 s10) ∧ (¬ r9 = (45 : Int32) → (r9 = (42 : Int32) → wX5_next_300 Q r9 s10) ∧ (¬ r9 = (42 : Int32) → (r9 = (60 : Int32) → wX5_next_300 Q r9 s10) ∧ (¬ r9 = (60 : Int32) → (r9 ≠ (61 : Int32) → Q s10) ∧ (r9 = (61 : Int32) → wX5_next_300 Q r9 s10))))))))) ∧ (¬ r14 = 0 → ∀ s24 : kS, s24 = kset s10 0 23 (2 : Int32) → ∀ s25 : kS, s25 = ksetL s24 (0 : Int64) → wX5_next_160 Q (0 : Int32) s25))) ∧ (¬ r12 = 0 → ∀ s26 : kS, s26 = kset s10 0 23 (1 : Int32) → wX5_next_100 Q s26))) ∧ (¬ 0 ≤ r9 → ∀ s27 : kS, s27 = kset s10 0 23 (0 : Int32) → ∀ s28 : kS, s28 = kset s27 0 24 (s27.1 0 21) → Q s28)) := by
    intro p hpN hpi u ou au s7 e7
    rw [hpi] at h
    have o7 : mNf σ s7 := by rw [e7]; exact ou.tr (mNf.set (by omega))
    have t7 : s7.1 0 24 = nI p := by rw [e7, kset_at]; exact au
    have a7 : s7.1 0 22 = nI p := by rw [e7, kset_ne (by decide)]; exact au
    rw [a7]
    refine m_byteAt (hT.nf o7) (by omega) ?_
    intro s10 e10
    have o10 : mNf σ s10 := by rw [e10]; exact o7.tr (mNf.set (by omega))
    have t10 : s10.1 0 24 = nI p := by rw [e10, kset_ne (by decide)]; exact t7
    have a10 : s10.1 0 22 = nI p := by rw [e10, kset_ne (by decide)]; exact a7
    have k10 : s10.1 0 23 = 4 := by rw [e10, kset_at]
    by_cases hlt : p < N
    · rw [if_pos hlt]
      have tb := (hT.2.2.2.2 p hlt).2
      refine ⟨fun _ => m_letter tb (fun hl => ⟨fun z => absurd z (by decide), fun _ s26 e26 => ?_⟩) (fun hl => ⟨fun _ => m_digit tb (fun hd => ⟨fun z => absurd z (by decide), fun _ s24 e24 s25 e25 => ?_⟩) (fun hd => ⟨fun _ => ?_, fun z => absurd rfl z⟩), fun z => absurd rfl z⟩), fun z => absurd (nI_pos' (by omega)) z⟩
      · have o26 : mNf σ s26 := by rw [e26]; exact o10.tr (mNf.set (by omega))
        refine m_words (hT.nf o26) hlt (by rw [e26, kset_ne (by decide)]; exact a10) (fun s es => h s ?_ ?_ (Or.inr (Or.inl ⟨hlt, hl, ?_, ?_⟩)))
        · rw [es]
          exact o26.tr (mNf.set (by omega))
        · rw [es, kset_ne (by decide), e26, kset_ne (by decide)]
          exact t10
        · rw [es, kset_ne (by decide), e26, kset_at]
        · rw [es, kset_at]
      · have o25 : mNf σ s25 := by rw [e25, e24]; exact (o10.tr (mNf.set (by omega))).tr mNf.setL
        have t25 : s25.1 0 24 = nI p := by rw [e25, ksetL_1, e24, kset_ne (by decide)]; exact t10
        refine m_digits (hT.nf o25) (by omega) (by rw [e25, ksetL_1, e24, kset_ne (by decide)]; exact a10) (by rw [e25]; rfl) (fun s os ts as ks ns => h s (o25.tr os) (ts.trans t25) (Or.inr (Or.inr (Or.inl ⟨hlt, hl, hd, as, ?_⟩))))
        by_cases h4 : lRun lDi T N p - p ≤ 4
        · rw [if_pos h4] at ks
          exact Or.inl ⟨h4, ks, ns h4⟩
        · rw [if_neg h4] at ks
          exact Or.inr ⟨h4, ks⟩
      · have yes : ∀ b : Nat, b < 256 → lSi b = true → nI (T p) = nI b → wX5_next_300 Q (nI (T p)) s10 := by
          intro b hb hs e s30 e30 s31 e31 s32 e32
          have etp := (nI_eqB tb hb).mp e
          have a31 : s31.1 0 22 = nI p := by rw [e31, ksetL_1, e30, kset_ne (by decide)]; exact a10
          rw [a31, k_n1] at e32
          refine h s32 ?_ ?_ (Or.inr (Or.inr (Or.inr (Or.inl ⟨hlt, hl, hd, by rw [etp]; exact hs, ?_, ?_, ?_⟩))))
          · rw [e32, e31, e30]
            exact ((o10.tr (mNf.set (by omega))).tr mNf.setL).tr (mNf.set (by omega))
          · rw [e32, kset_ne (by decide), e31, ksetL_1, e30, kset_ne (by decide)]
            exact t10
          · rw [e32, kset_ne (by decide), e31, ksetL_1, e30, kset_at]
          · rw [e32, e31]
            show (nI (T p)).toInt64 = lN (T p)
            exact nI_l (by omega)
          · rw [e32, kset_at]
        refine ⟨yes 40 (by decide) rfl, fun q1 => ⟨yes 41 (by decide) rfl, fun q2 => ⟨yes 59 (by decide) rfl, fun q3 => ⟨yes 43 (by decide) rfl, fun q4 => ⟨yes 45 (by decide) rfl, fun q5 => ⟨yes 42 (by decide) rfl, fun q6 => ⟨yes 60 (by decide) rfl, fun q7 => ⟨fun q8 => ?_, yes 61 (by decide) rfl⟩⟩⟩⟩⟩⟩⟩⟩
        refine h s10 o10 t10 (Or.inr (Or.inr (Or.inr (Or.inr ⟨hlt, hl, hd, fun z => ?_, k10⟩))))
        rcases lSi_in z with e | e | e | e | e | e | e | e
        · exact q1 (by rw [e]; rfl)
        · exact q2 (by rw [e]; rfl)
        · exact q3 (by rw [e]; rfl)
        · exact q4 (by rw [e]; rfl)
        · exact q5 (by rw [e]; rfl)
        · exact q6 (by rw [e]; rfl)
        · exact q7 (by rw [e]; rfl)
        · exact q8 (by rw [e]; rfl)
    · rw [if_neg hlt]
      have epN : p = N := by omega
      refine ⟨fun z => absurd z (by decide), fun _ s27 e27 s28 e28 => h s28 ?_ ?_ (Or.inl ⟨by omega, ?_⟩)⟩
      · rw [e28, e27]
        exact (o10.tr (mNf.set (by omega))).tr (mNf.set (by omega))
      · rw [e28, kset_at, e27, kset_ne (by decide), o10.2 21 (by decide) (by decide) (by decide), hT.2.2.2.1, epN]
      · rw [e28, kset_ne (by decide), e27, kset_at]
  suffices key : ∀ r j : Nat, j + r = N → lRun lBl T N j = lP T N i → ∀ u : kS, mNf σ u → u.1 0 22 = nI j → P u from key (N - i) i (by omega) rfl σ mNf.rf ha
  intro r
  induction r with
  | zero =>
    intro j hj hr u ou au
    have Tu := hT.nf ou
    have e : j = N := by omega
    have hlp : lP T N i = j := by rw [← hr]; exact lRun_0 (by omega)
    refine hP _ ?_
    rw [au]
    refine m_byteAt Tu (by omega) ?_
    rw [if_neg (by omega)]
    refine ⟨fun q => absurd q (by decide), fun _ => ?_⟩
    rw [au]
    refine m_byteAt Tu (by omega) ?_
    rw [if_neg (by omega)]
    exact ⟨fun _ => stop j (by omega) hlp u ou au, fun q => absurd q (by decide)⟩
  | succ r ih =>
    intro j hj hr u ou au
    have Tu := hT.nf ou
    have tb := (hT.2.2.2.2 j (by omega)).2
    have more : lBl (T j) = true → wX5_next_26 Q P u := by
      intro hb s29 e29
      rw [au, k_n1] at e29
      refine ih (j + 1) (by omega) ?_ s29 ?_ ?_
      · rw [← hr]
        exact (lRun_s (by omega) hb).symm
      · rw [e29]
        exact ou.tr (mNf.set (by omega))
      · rw [e29, kset_at]
    refine hP _ ?_
    rw [au]
    refine m_byteAt Tu (by omega) ?_
    rw [if_pos (by omega)]
    refine ⟨fun q => more ?_, fun q => ?_⟩
    · have := (nI_eqB (m := 32) tb (by decide)).mp q
      rw [this]
      rfl
    · rw [au]
      refine m_byteAt Tu (by omega) ?_
      rw [if_pos (by omega)]
      refine ⟨fun q2 => stop j (by omega) ?_ u ou au, fun q2 => more ?_⟩
      · rw [← hr]
        refine lRun_0 (fun z => ?_)
        have z := z.2
        simp only [lBl, Bool.or_eq_true, decide_eq_true_eq] at z
        rcases z with z | z
        · exact q (by rw [z]; rfl)
        · exact q2 (by rw [z]; rfl)
      · have := (nI_eqB (m := 10) tb (by decide)).mp q2
        rw [this]
        rfl
