/-! the reference reads as the pure parser does -/
abbrev kWp : Type := kS → (Int32 → kS → Prop) → Prop
def mRes (T : Nat → Nat) (N F : Nat) (r : pRs) (σ : kS) (Q : Int32 → kS → Prop) : Prop :=
  (r.2 = none → ∀ (s : kS) (v : Int32), mFr σ s → mDd r.1 s → Q v s) ∧ ∀ c : List Int32 × kVal, r.2 = some c → ∀ s : kS, mFr σ s → mAt T N F r.1 s → Q (c.2 (mEnv σ)) s
def mLv (T : Nat → Nat) (N F : Nat) (W : kWp) (k lv : Nat) : Prop := ∀ (i : Nat) (σ : kS) (Q : Int32 → kS → Prop), i ≤ N → mAt T N F i σ → σ.1 0 26 = nI (5 - k) → mRes T N F (pAll T N k lv i) σ Q → W σ Q
def gTerm_5 (A : kWp) (Q : Int32 → kS → Prop) (l1 : Int32) (σ : kS) : Prop :=
  ∀ P5 : kS → Int32 → Prop, (∀ (σ : kS) (l1 : Int32), (wX5_isSign (42 : Int32) σ (fun r4 s3 => (r4 = 0 → Q l1 s3) ∧ (¬ r4 = 0 → wX5_next s3 (fun s6 => A s6 (fun r8 s7 => ∀ x9 : Int32, x9 = l1 * r8 → P5 s7 x9))))) → P5 σ l1) → P5 σ l1
def gTerm (A : kWp) : kWp := fun σ Q => A σ (fun r2 s1 => gTerm_5 A Q r2 s1)
def gAdded_39 (A : kWp) (Q : Int32 → kS → Prop) (P5 : kS → Int32 → Prop) (l1 : Int32) (ks0 : Int32) (σ : kS) : Prop :=
  wX5_next σ (fun s10 => A s10 (fun r12 s11 => (ks0 = 0 → ∀ x14 : Int32, x14 = l1 - r12 → P5 s11 x14) ∧ (¬ ks0 = 0 → ∀ x15 : Int32, x15 = l1 + r12 → P5 s11 x15)))
def gAdded_23 (A : kWp) (Q : Int32 → kS → Prop) (P5 : kS → Int32 → Prop) (l1 : Int32) (σ : kS) : Prop :=
  ((lg_cmp σ.2 (43 : Int64)) ≠ 0 → gAdded_39 A Q P5 l1 (0 : Int32) σ) ∧ ((lg_cmp σ.2 (43 : Int64)) = 0 → gAdded_39 A Q P5 l1 (1 : Int32) σ)
def gAdded_5 (A : kWp) (Q : Int32 → kS → Prop) (l1 : Int32) (σ : kS) : Prop :=
  ∀ P5 : kS → Int32 → Prop, (∀ (σ : kS) (l1 : Int32), (wX5_isSign (43 : Int32) σ (fun r4 s3 => (r4 ≠ 0 → gAdded_23 A Q P5 l1 s3) ∧ (r4 = 0 → wX5_isSign (45 : Int32) s3 (fun r7 s6 => (r7 = 0 → Q l1 s6) ∧ (¬ r7 = 0 → gAdded_23 A Q P5 l1 s6))))) → P5 σ l1) → P5 σ l1
def gAdded (A : kWp) : kWp := fun σ Q => A σ (fun r2 s1 => gAdded_5 A Q r2 s1)
def gNot_66 (A : kWp) (Q : Int32 → kS → Prop) (l1 : Int32) (ks0 : Int32) (σ : kS) : Prop :=
  wX5_next σ (fun s15 => A s15 (fun r17 s16 => (ks0 = 0 → (l1 ≠ r17 → Q (0 : Int32) s16) ∧ (l1 = r17 → Q (1 : Int32) s16)) ∧ (¬ ks0 = 0 → (r17 ≤ l1 → Q (0 : Int32) s16) ∧ (¬ r17 ≤ l1 → Q (1 : Int32) s16))))
def gNot_50 (A : kWp) (Q : Int32 → kS → Prop) (l1 : Int32) (σ : kS) : Prop :=
  ((lg_cmp σ.2 (60 : Int64)) ≠ 0 → gNot_66 A Q l1 (0 : Int32) σ) ∧ ((lg_cmp σ.2 (60 : Int64)) = 0 → gNot_66 A Q l1 (1 : Int32) σ)
def gCmp (A : kWp) : kWp := fun σ Q => A σ (fun r5 s4 => wX5_isSign (60 : Int32) s4 (fun r7 s6 => (r7 ≠ 0 → gNot_50 A Q r5 s6) ∧ (r7 = 0 → wX5_isSign (61 : Int32) s6 (fun r10 s9 => (r10 ≠ 0 → gNot_50 A Q r5 s9) ∧ (r10 = 0 → Q r5 s9)))))
def gNot5 (A : kWp) : kWp := fun σ Q => wX5_isWord (110 : Int32) (111 : Int32) (116 : Int32) (0 : Int32) (0 : Int32) (0 : Int32) (0 : Int32) (0 : Int32) σ (fun r2 s1 => (r2 = 0 → gCmp A s1 Q) ∧ (¬ r2 = 0 → wX5_opens s1 (fun r13 s12 => Q (0 : Int32) s12)))
def gNot (B A : kWp) : kWp := fun σ Q => wX5_isWord (110 : Int32) (111 : Int32) (116 : Int32) (0 : Int32) (0 : Int32) (0 : Int32) (0 : Int32) (0 : Int32) σ (fun r2 s1 => (r2 = 0 → gCmp A s1 Q) ∧ (¬ r2 = 0 → wX5_opens s1 (fun r13 s12 => (r13 ≠ 0 → B s12 (fun r16 s15 => ∀ s17 : kS, s17 = kset s15 0 26 ((s15.1 0 26) - (1 : Int32)) → (r16 ≠ 0 → Q (0 : Int32) s17) ∧ (r16 = 0 → Q (1 : Int32) s17))) ∧ (r13 = 0 → Q (0 : Int32) s12))))
def gBoth_5 (A : kWp) (Q : Int32 → kS → Prop) (l1 : Int32) (σ : kS) : Prop :=
  ∀ P5 : kS → Int32 → Prop, (∀ (σ : kS) (l1 : Int32), (wX5_isWord (97 : Int32) (110 : Int32) (100 : Int32) (0 : Int32) (0 : Int32) (0 : Int32) (0 : Int32) (0 : Int32) σ (fun r4 s3 => (r4 = 0 → Q l1 s3) ∧ (¬ r4 = 0 → wX5_next s3 (fun s6 => A s6 (fun r8 s7 => (l1 = 0 → P5 s7 (0 : Int32)) ∧ (¬ l1 = 0 → (r8 = 0 → P5 s7 (0 : Int32)) ∧ (¬ r8 = 0 → P5 s7 (1 : Int32)))))))) → P5 σ l1) → P5 σ l1
def gBoth (A : kWp) : kWp := fun σ Q => A σ (fun r2 s1 => gBoth_5 A Q r2 s1)
def gEither_5 (A : kWp) (Q : Int32 → kS → Prop) (l1 : Int32) (σ : kS) : Prop :=
  ∀ P5 : kS → Int32 → Prop, (∀ (σ : kS) (l1 : Int32), (wX5_isWord (111 : Int32) (114 : Int32) (0 : Int32) (0 : Int32) (0 : Int32) (0 : Int32) (0 : Int32) (0 : Int32) σ (fun r4 s3 => (r4 = 0 → Q l1 s3) ∧ (¬ r4 = 0 → wX5_next s3 (fun s6 => A s6 (fun r8 s7 => (l1 ≠ 0 → P5 s7 (1 : Int32)) ∧ (l1 = 0 → (r8 = 0 → P5 s7 (0 : Int32)) ∧ (¬ r8 = 0 → P5 s7 (1 : Int32)))))))) → P5 σ l1) → P5 σ l1
def gEither (A : kWp) : kWp := fun σ Q => A σ (fun r2 s1 => gEither_5 A Q r2 s1)
def gAtom (A E : kWp) : kWp := fun σ Q =>
  wX5_isSign (45 : Int32) σ (fun r2 s1 => (r2 = 0 → wX5_isSign (40 : Int32) s1 (fun r5 s4 => (r5 = 0 → ((s4.1 0 27) ≠ 0 → wX5_atom5_64 Q (0 : Int32) s4) ∧ ((s4.1 0 27) = 0 → ((s4.1 0 23) ≠ (2 : Int32) → wX5_atom5_64 Q (0 : Int32) s4) ∧ ((s4.1 0 23) = (2 : Int32) → ∀ x9 : Int32, x9 = s4.2.toInt32 → wX5_next s4 (fun s10 => Q x9 s10)))) ∧ (¬ r5 = 0 → wX5_opens s4 (fun r12 s11 => (r12 = 0 → Q (0 : Int32) s11) ∧ (¬ r12 = 0 → E s11 (fun r15 s14 => wX5_isSign (41 : Int32) s14 (fun r17 s16 => (r17 ≠ 0 → wX5_atom4_71 Q r15 s16) ∧ (r17 = 0 → wX5_fail s16 (fun s19 => wX5_atom4_71 Q r15 s19))))))))) ∧ (¬ r2 = 0 → wX5_opens s1 (fun r21 s20 => (r21 = 0 → Q (0 : Int32) s20) ∧ (¬ r21 = 0 → A s20 (fun r24 s23 => ∀ x25 : Int32, x25 = -r24 → ∀ s26 : kS, s26 = kset s23 0 26 ((s23.1 0 26) - (1 : Int32)) → Q x25 s26)))))
/-! what a sign, a word joins -/
theorem sJ_mul {a b : Int32} : sJoin (-15) a b = a * b := by
  unfold sJoin
  rw [if_neg (by decide), if_neg (by decide), if_neg (by decide), if_neg (by decide), if_neg (by decide), if_neg (by decide)]
theorem sJ_sub {a b : Int32} : sJoin (-14) a b = a - b := if_pos rfl
theorem sJ_add {a b : Int32} : sJoin (-13) a b = a + b := by
  unfold sJoin
  rw [if_neg (by decide), if_pos rfl]
theorem sJ_eq {a b : Int32} : sJoin (-12) a b = if a = b then 1 else 0 := by
  unfold sJoin
  rw [if_neg (by decide), if_neg (by decide), if_pos rfl]
theorem sJ_lt {a b : Int32} : sJoin (-11) a b = if b ≤ a then 0 else 1 := by
  unfold sJoin
  rw [if_neg (by decide), if_neg (by decide), if_neg (by decide), if_pos rfl]
theorem sJ_and {a b : Int32} : sJoin (-10) a b = if a = 0 then 0 else if b = 0 then 0 else 1 := by
  unfold sJoin
  rw [if_neg (by decide), if_neg (by decide), if_neg (by decide), if_neg (by decide), if_pos rfl]
theorem sJ_or {a b : Int32} : sJoin (-9) a b = if a = 0 then (if b = 0 then 0 else 1) else 1 := by
  unfold sJoin
  rw [if_neg (by decide), if_neg (by decide), if_neg (by decide), if_neg (by decide), if_neg (by decide), if_pos rfl]
theorem lC_end {T : Nat → Nat} {N i : Nat} (h : N ≤ i) : lC T N i = 0 := by
  unfold lC
  rw [show lP T N i = i from lRun_0 (by omega)]
  exact if_pos h
theorem mAt.sgn {T : Nat → Nat} {N F i b : Nat} {σ : kS} (hb : lSi b = true) (hA : mAt T N F i σ) (h : lC T N i = b) : σ.2 = lN b := by
  obtain ⟨a1, a2, a3, a4⟩ := hA
  have hb2 := lSi_in hb
  unfold lC at h
  rcases mTk_code a4 with ⟨k1, k2, k3⟩ | ⟨k0, k1, k2, k3, k4, k5⟩ | ⟨k1, k2, k3, k4⟩ | ⟨k1, k2, k3, k4, k5⟩ | ⟨k1, k2⟩
  · omega
  · rcases wTok_in (T := T) (p := lP T N i) (e := lRun lLe T N (lP T N i)) 12 with y | ⟨w, y1, y2, y3⟩ <;> omega
  · omega
  · rw [k5, ← k1, h]
  · omega
theorem mRes.mv {T : Nat → Nat} {N F : Nat} {r : pRs} {σ s : kS} {Q : Int32 → kS → Prop} (h : mRes T N F r σ Q) (ho : mFr σ s) : mRes T N F r s Q :=
  ⟨fun e u v ou du => h.1 e u v (ho.tr ou) du, fun c e u ou au => by
    have := h.2 c e u (ho.tr ou) au
    rw [← ho.env] at this
    exact this⟩
theorem mFr.k26 {σ s : kS} (h : mFr σ s) : s.1 0 26 = σ.1 0 26 := h.2 26 (by decide) (by decide) (by decide) (by decide) (by decide)
/-- what stands behind a sign -/
theorem m_stp {T : Nat → Nat} {N F k lv i : Nat} {A : kWp} {s : kS} {K : Int32 → kS → Prop} (SUB : mLv T N F A k lv) (hi : i ≤ N) (h0 : lC T N i ≠ 0) (h1 : lC T N i ≠ 1) (hA : mAt T N F i s) (h26 : s.1 0 26 = nI (5 - k))
    (hD : (pAll T N k lv (lE T N i)).2 = none → ∀ (u : kS) (v : Int32), mFr s u → mDd (pAll T N k lv (lE T N i)).1 u → K v u)
    (hS : ∀ d : List Int32 × kVal, (pAll T N k lv (lE T N i)).2 = some d → ∀ u : kS, mFr s u → mAt T N F (pAll T N k lv (lE T N i)).1 u → i + 1 ≤ (pAll T N k lv (lE T N i)).1 → (pAll T N k lv (lE T N i)).1 ≤ N → K (d.2 (mEnv s)) u) : wX5_next s (fun s6 => A s6 K) := by
  obtain ⟨e1, e2, e3⟩ := lE_in (T := T) hi
  have e3 := e3 h0
  have far := pFar_all (T := T) (N := N) k lv (lE T N i) e2
  refine m_nextA hi hA h0 h1 (fun s6 o6 a6 => SUB _ s6 K e2 a6 (by rw [o6.f.k26]; exact h26) ⟨fun e u v ou du => hD e u v (o6.f.tr ou) du, fun d e u ou au => ?_⟩)
  have := hS d e u (o6.f.tr ou) au (by have := (far.2 d e).1; omega) far.1
  rw [← o6.f.env] at this
  exact this
theorem m_termL {T : Nat → Nat} {N F k : Nat} {A : kWp} {σ : kS} {Q : Int32 → kS → Prop} (SUB : mLv T N F A k 5) (hN : N ≤ 160) (h26 : σ.1 0 26 = nI (5 - k)) : ∀ (r i : Nat) (c : List Int32 × kVal) (s : kS), r ≤ 160 → 160 - r ≤ i → i ≤ N → mFr σ s → mAt T N F i s → mRes T N F (pLoop T N opT (pAll T N k 5) r i c) σ Q → gTerm_5 A Q (c.2 (mEnv σ)) s := by
  intro r
  induction r with
  | zero =>
    intro i c s hr hri hi o a res P hP
    refine hP _ _ (m_isSign (b := 42) rfl a (fun z => ?_) (fun z => ⟨fun _ => res.2 c rfl s o a, fun y => absurd rfl y⟩))
    rw [lC_end (by omega)] at z
    cases z
  | succ r ih =>
    intro i c s hr hri hi o a res P hP
    refine hP _ _ (m_isSign (b := 42) rfl a (fun z => ⟨fun y => absurd y (by decide), fun _ => ?_⟩) (fun z => ⟨fun _ => ?_, fun y => absurd rfl y⟩))
    · have hop : opT (lC T N i) = some (-15) := if_pos z
      rw [pLoop_some hop] at res
      refine m_stp SUB hi (by omega) (by omega) a (by rw [o.k26]; exact h26) (fun e u v ou du x ex => ?_) (fun d e u ou au hj1 hj2 x ex => ?_)
      · rw [pB_none e] at res
        exact hP _ _ (m_isSignD du ⟨fun _ => res.1 e u _ (o.tr ou) du, fun y => absurd rfl y⟩)
      · rw [pB_some e] at res
        have nx := ih _ (pJn (-15) c d) u (by omega) (by omega) hj2 (o.tr ou) au res P hP
        rw [ex, o.env, ← sJ_mul]
        exact nx
    · have hop : opT (lC T N i) = none := if_neg z
      rw [pLoop_none hop] at res
      exact res.2 c rfl s o a
theorem m_term {T : Nat → Nat} {N F k : Nat} {A : kWp} (hN : N ≤ 160) (SUB : mLv T N F A k 5) : mLv T N F (gTerm A) k 4 := by
  intro i σ Q hi a h26 res
  have far := pFar_all (T := T) (N := N) k 5 i hi
  rw [pA_4] at res
  refine SUB i σ _ hi a h26 ⟨fun e u v ou du P hP => ?_, fun c e u ou au => ?_⟩
  · rw [pB_none e] at res
    exact hP _ _ (m_isSignD du ⟨fun _ => res.1 e u _ ou du, fun y => absurd rfl y⟩)
  · rw [pB_some e] at res
    exact m_termL SUB hN h26 160 _ c u (Nat.le_refl _) (by omega) far.1 ou au res
theorem m_addedL {T : Nat → Nat} {N F k : Nat} {A : kWp} {σ : kS} {Q : Int32 → kS → Prop} (SUB : mLv T N F A k 4) (hN : N ≤ 160) (h26 : σ.1 0 26 = nI (5 - k)) : ∀ (r i : Nat) (c : List Int32 × kVal) (s : kS), r ≤ 160 → 160 - r ≤ i → i ≤ N → mFr σ s → mAt T N F i s → mRes T N F (pLoop T N opS (pAll T N k 4) r i c) σ Q → gAdded_5 A Q (c.2 (mEnv σ)) s := by
  intro r
  induction r with
  | zero =>
    intro i c s hr hri hi o a res P hP
    have hz : lC T N i = 0 := lC_end (by omega)
    refine hP _ _ (m_isSign (b := 43) rfl a (fun z => absurd z (by omega)) (fun z => ⟨fun y => absurd rfl y, fun _ => m_isSign (b := 45) rfl a (fun z => absurd z (by omega)) (fun z => ⟨fun _ => res.2 c rfl s o a, fun y => absurd rfl y⟩)⟩))
  | succ r ih =>
    intro i c s hr hri hi o a res P hP
    have go : ∀ (op : Int32) (ks : Int32), opS (lC T N i) = some op → lC T N i ≠ 0 → lC T N i ≠ 1 → ((ks = 0 ∧ op = -14) ∨ (¬ ks = 0 ∧ op = -13)) → gAdded_39 A Q P (c.2 (mEnv σ)) ks s := by
      intro op ks hop h0 h1 hks
      rw [pLoop_some hop] at res
      refine m_stp SUB hi h0 h1 a (by rw [o.k26]; exact h26) (fun e u v ou du => ?_) (fun d e u ou au hj1 hj2 => ?_)
      · rw [pB_none e] at res
        have out : ∀ w : Int32, P u w := fun w => hP _ _ (m_isSignD du ⟨fun y => absurd rfl y, fun _ => m_isSignD du ⟨fun _ => res.1 e u _ (o.tr ou) du, fun y => absurd rfl y⟩⟩)
        exact ⟨fun _ x ex => out x, fun _ x ex => out x⟩
      · rw [pB_some e] at res
        have nx := ih _ (pJn op c d) u (by omega) (by omega) hj2 (o.tr ou) au res P hP
        rw [o.env]
        rcases hks with ⟨k1, k2⟩ | ⟨k1, k2⟩
        · subst k2
          refine ⟨fun _ x ex => ?_, fun z => absurd k1 z⟩
          rw [ex, ← sJ_sub]
          exact nx
        · subst k2
          refine ⟨fun z => absurd z k1, fun _ x ex => ?_⟩
          rw [ex, ← sJ_add]
          exact nx
    have go23 : lC T N i = 43 ∨ lC T N i = 45 → gAdded_23 A Q P (c.2 (mEnv σ)) s := by
      intro hz
      rcases hz with z | z
      · have e := a.sgn (b := 43) rfl z
        refine ⟨fun q => absurd ?_ q, fun _ => go (-13) 1 (if_pos z) (by omega) (by omega) (Or.inr ⟨by decide, rfl⟩)⟩
        rw [lg_cmp_eq, e]
        rfl
      · have e := a.sgn (b := 45) rfl z
        refine ⟨fun _ => go (-14) 0 ((if_neg (by omega)).trans (if_pos z)) (by omega) (by omega) (Or.inl ⟨rfl, rfl⟩), fun q => ?_⟩
        rw [lg_cmp_eq, e] at q
        exact absurd q (by decide)
    refine hP _ _ (m_isSign (b := 43) rfl a (fun z => ⟨fun _ => go23 (Or.inl z), fun y => absurd y (by decide)⟩) (fun z => ⟨fun y => absurd rfl y, fun _ => m_isSign (b := 45) rfl a (fun z2 => ⟨fun y => absurd y (by decide), fun _ => go23 (Or.inr z2)⟩) (fun z2 => ⟨fun _ => ?_, fun y => absurd rfl y⟩)⟩))
    have hop : opS (lC T N i) = none := (if_neg z).trans (if_neg z2)
    rw [pLoop_none hop] at res
    exact res.2 c rfl s o a
theorem m_added {T : Nat → Nat} {N F k : Nat} {A : kWp} (hN : N ≤ 160) (SUB : mLv T N F A k 4) : mLv T N F (gAdded A) k 3 := by
  intro i σ Q hi a h26 res
  have far := pFar_all (T := T) (N := N) k 4 i hi
  rw [pA_3] at res
  refine SUB i σ _ hi a h26 ⟨fun e u v ou du P hP => ?_, fun c e u ou au => ?_⟩
  · rw [pB_none e] at res
    exact hP _ _ (m_isSignD du ⟨fun y => absurd rfl y, fun _ => m_isSignD du ⟨fun _ => res.1 e u _ ou du, fun y => absurd rfl y⟩⟩)
  · rw [pB_some e] at res
    exact m_addedL SUB hN h26 160 _ c u (Nat.le_refl _) (by omega) far.1 ou au res
theorem m_cmp {T : Nat → Nat} {N F k : Nat} {A : kWp} (SUB : mLv T N F A k 3) {i : Nat} {σ : kS} {Q : Int32 → kS → Prop} (hi : i ≤ N) (a : mAt T N F i σ) (h26 : σ.1 0 26 = nI (5 - k)) (res : mRes T N F (pCmp T N (pAll T N k 3) i) σ Q) : gCmp A σ Q := by
  have far := pFar_all (T := T) (N := N) k 3 i hi
  refine SUB i σ _ hi a h26 ⟨fun e u v ou du => ?_, fun c e u ou au => ?_⟩
  · have e2 : pCmp T N (pAll T N k 3) i = pAll T N k 3 i := pB_none e
    rw [e2] at res
    exact m_isSignD du ⟨fun y => absurd rfl y, fun _ => m_isSignD du ⟨fun y => absurd rfl y, fun _ => res.1 e u _ ou du⟩⟩
  · have go : ∀ (op : Int32) (ks : Int32), opN (lC T N (pAll T N k 3 i).1) = some op → lC T N (pAll T N k 3 i).1 ≠ 0 → lC T N (pAll T N k 3 i).1 ≠ 1 → ((ks = 0 ∧ op = -12) ∨ (¬ ks = 0 ∧ op = -11)) → gNot_66 A Q (c.2 (mEnv σ)) ks u := by
      intro op ks hop h0 h1 hks
      rw [pCmp_some e hop] at res
      refine m_stp SUB far.1 h0 h1 au (by rw [ou.k26]; exact h26) (fun e2 u2 v ou2 du2 => ?_) (fun d e2 u2 ou2 au2 hj1 hj2 => ?_)
      · rw [pB_none e2] at res
        have out : ∀ w : Int32, Q w u2 := fun w => res.1 e2 u2 w (ou.tr ou2) du2
        exact ⟨fun _ => ⟨fun _ => out 0, fun _ => out 1⟩, fun _ => ⟨fun _ => out 0, fun _ => out 1⟩⟩
      · rw [pB_some e2] at res
        have fin := res.2 (pJn op c d) rfl u2 (ou.tr ou2) au2
        rw [ou.env]
        rcases hks with ⟨k1, k2⟩ | ⟨k1, k2⟩
        · subst k2
          have fin : Q (sJoin (-12) (c.2 (mEnv σ)) (d.2 (mEnv σ))) u2 := fin
          rw [sJ_eq] at fin
          refine ⟨fun _ => ⟨fun q => ?_, fun q => ?_⟩, fun z => absurd k1 z⟩
          · rw [if_neg q] at fin
            exact fin
          · rw [if_pos q] at fin
            exact fin
        · subst k2
          have fin : Q (sJoin (-11) (c.2 (mEnv σ)) (d.2 (mEnv σ))) u2 := fin
          rw [sJ_lt] at fin
          refine ⟨fun z => absurd z k1, fun _ => ⟨fun q => ?_, fun q => ?_⟩⟩
          · rw [if_pos q] at fin
            exact fin
          · rw [if_neg q] at fin
            exact fin
    have go50 : lC T N (pAll T N k 3 i).1 = 60 ∨ lC T N (pAll T N k 3 i).1 = 61 → gNot_50 A Q (c.2 (mEnv σ)) u := by
      intro hz
      rcases hz with z | z
      · have e2 := au.sgn (b := 60) rfl z
        refine ⟨fun q => absurd ?_ q, fun _ => go (-11) 1 (if_pos z) (by omega) (by omega) (Or.inr ⟨by decide, rfl⟩)⟩
        rw [lg_cmp_eq, e2]
        rfl
      · have e2 := au.sgn (b := 61) rfl z
        refine ⟨fun _ => go (-12) 0 ((if_neg (by omega)).trans (if_pos z)) (by omega) (by omega) (Or.inl ⟨rfl, rfl⟩), fun q => ?_⟩
        rw [lg_cmp_eq, e2] at q
        exact absurd q (by decide)
    refine m_isSign (b := 60) rfl au (fun z => ⟨fun _ => go50 (Or.inl z), fun y => absurd y (by decide)⟩) (fun z => ⟨fun y => absurd rfl y, fun _ => m_isSign (b := 61) rfl au (fun z2 => ⟨fun _ => go50 (Or.inr z2), fun y => absurd y (by decide)⟩) (fun z2 => ⟨fun y => absurd rfl y, fun _ => ?_⟩)⟩)
    rw [pCmp_none e ((if_neg z).trans (if_neg z2))] at res
    exact res.2 c rfl u ou au
theorem mAt.k26 {T : Nat → Nat} {N F i : Nat} {σ : kS} {v : Int32} (h : mAt T N F i σ) : mAt T N F i (kset σ 0 26 v) := by
  obtain ⟨⟨t1, t2, t3, t4, t5⟩, a2, a3, a4⟩ := h
  refine ⟨⟨t1, t2, ?_, ?_, fun j hj => ?_⟩, ?_, ?_, ?_⟩
  · rw [kset_ne (by decide)]; exact t3
  · rw [kset_ne (by decide)]; exact t4
  · rw [kset_off (by decide)]; exact t5 j hj
  · rw [kset_ne (by decide)]; exact a2
  · rw [kset_ne (by decide)]; exact a3
  · unfold mTk at a4 ⊢
    rw [kset_ne (by decide), kset_ne (by decide)]
    exact a4
theorem mDd.k26 {f : Nat} {σ : kS} {v : Int32} (h : mDd f σ) : mDd f (kset σ 0 26 v) := by
  refine ⟨?_, ?_⟩
  · rw [kset_ne (by decide)]; exact h.1
  · rw [kset_ne (by decide)]; exact h.2
/-- one more is opened, and closed in the end -/
theorem m_opens {T : Nat → Nat} {N F k i : Nat} {σ : kS} {Q : Int32 → kS → Prop} (hk : k < 5) (hi : i ≤ N) (hA : mAt T N F i σ) (h0 : lC T N i ≠ 0) (h1 : lC T N i ≠ 1) (h26 : σ.1 0 26 = nI (5 - (k + 1))) (h : ∀ s : kS, mFr (kset σ 0 26 (nI (5 - k))) s → mAt T N F (lE T N i) s → s.1 0 26 = nI (5 - k) → Q 1 s) : wX5_opens σ Q := by
  refine ⟨fun _ s2 e2 => ?_, fun q => ?_⟩
  · rw [h26, k_n1, show 5 - (k + 1) + 1 = 5 - k by omega] at e2
    have a2 : mAt T N F i s2 := by rw [e2]; exact hA.k26
    refine m_nextA hi a2 h0 h1 (fun s3 o3 a3 => h s3 ?_ a3 ?_)
    · rw [← e2]
      exact o3.f
    · rw [o3.f.k26, e2, kset_at]
  · rw [h26] at q
    have := (nI_eq (b := 5) (by omega) (by decide)).mp q
    omega
theorem m_opensD {T : Nat → Nat} {N F i : Nat} {σ : kS} {Q : Int32 → kS → Prop} (hA : mAt T N F i σ) (h26 : σ.1 0 26 = nI 5) (h : ∀ s : kS, mFr σ s → mDd (lP T N i) s → Q 0 s) : wX5_opens σ Q := by
  refine ⟨fun q => absurd h26 q, fun _ => m_fail hA h⟩
theorem m_close {k : Nat} {σ u v : kS} (hk : k < 5) (h26 : σ.1 0 26 = nI (5 - (k + 1))) (ou : mFr (kset σ 0 26 (nI (5 - k))) u) (e : v = kset u 0 26 ((u.1 0 26) - (1 : Int32))) : mFr σ v ∧ mEnv u = mEnv σ := by
  have u26 : u.1 0 26 = nI (5 - k) := by rw [ou.k26, kset_at]
  rw [u26, show 5 - k = (5 - (k + 1)) + 1 by omega, nI_pred] at e
  refine ⟨⟨fun p hp => ?_, fun j j1 j2 j3 j4 j5 => ?_⟩, ?_⟩
  · rw [e, kset_off hp, ou.1 p hp, kset_off hp]
  · by_cases q : j = 26
    · rw [q, e, kset_at]
      exact h26.symm
    · rw [e, kset_ne q, ou.2 j j1 j2 j3 j4 j5, kset_ne q]
  · rw [ou.env]
    funext j
    match j with
    | 0 => exact kset_ne (by decide)
    | 1 => exact kset_ne (by decide)
    | 2 => exact kset_ne (by decide)
    | 3 => exact kset_ne (by decide)
    | 4 => exact kset_ne (by decide)
    | (j + 5) => exact kset_ne (by decide)
theorem pN_bad {T : Nat → Nat} {N i : Nat} (h : lC T N i = 261) : pCmp T N (pAll T N 0 3) i = pBad T N i := by
  have h5 : pAll T N 0 5 i = pBad T N i := pO_bad (by omega) (by omega) (fun z => absurd z.1 (by omega)) (fun z => absurd z.1 (by omega))
  have h4 : pAll T N 0 4 i = pBad T N i := by rw [pA_4, h5]; rfl
  have h3 : pAll T N 0 3 i = pBad T N i := by rw [pA_3, h4]; rfl
  unfold pCmp
  rw [h3]
  rfl
theorem m_not5 {T : Nat → Nat} {N F : Nat} {A : kWp} (SUB : mLv T N F A 0 3) : mLv T N F (gNot5 A) 0 2 := by
  intro i σ Q hi a h26 res
  rw [pA_2c (fun z => absurd rfl z.2)] at res
  refine m_isWord (w := 5) hi (by decide) a (fun z => ⟨fun y => absurd y (by decide), fun _ => ?_⟩) (fun z => ⟨fun _ => m_cmp SUB hi a h26 res, fun y => absurd rfl y⟩)
  rw [pN_bad z] at res
  exact m_opensD a h26 (fun s os ds => res.1 rfl s 0 os ds)
theorem m_not {T : Nat → Nat} {N F k : Nat} {A B : kWp} (hk : k < 5) (SUB : mLv T N F A (k + 1) 3) (UP : mLv T N F B k 2) : mLv T N F (gNot B A) (k + 1) 2 := by
  intro i σ Q hi a h26 res
  refine m_isWord (w := 5) hi (by decide) a (fun z => ⟨fun y => absurd y (by decide), fun _ => ?_⟩) (fun z => ⟨fun _ => ?_, fun y => absurd rfl y⟩)
  · obtain ⟨w1, w2, w3⟩ := lE_in (T := T) hi
    rw [pA_2n z] at res
    refine m_opens hk hi a (by omega) (by omega) h26 (fun s os as s26 => ⟨fun _ => UP _ s _ w2 as s26 ⟨fun e u v ou du s17 e17 => ?_, fun d e u ou au s17 e17 => ?_⟩, fun y => absurd y (by decide)⟩)
    · rw [pB_none e] at res
      have c := (m_close hk h26 (os.tr ou) e17).1
      have d17 : mDd (pAll T N k 2 (lE T N i)).1 s17 := by rw [e17]; exact du.k26
      exact ⟨fun _ => res.1 e s17 0 c d17, fun _ => res.1 e s17 1 c d17⟩
    · rw [pB_some e] at res
      obtain ⟨c1, c2⟩ := m_close hk h26 (os.tr ou) e17
      have fin := res.2 (pTn (-7) d) rfl s17 c1 (by rw [e17]; exact au.k26)
      have fin : Q (sTurn (-7) (d.2 (mEnv σ))) s17 := fin
      have c3 : mEnv s = mEnv σ := by rw [← c2]; exact ou.env.symm
      rw [c3]
      unfold sTurn at fin
      rw [if_neg (by decide)] at fin
      refine ⟨fun q => ?_, fun q => ?_⟩
      · rw [if_neg q] at fin
        exact fin
      · rw [if_pos q] at fin
        exact fin
  · rw [pA_2c (fun y => z y.1)] at res
    exact m_cmp SUB hi a h26 res
theorem m_bothL {T : Nat → Nat} {N F k : Nat} {A : kWp} {σ : kS} {Q : Int32 → kS → Prop} (SUB : mLv T N F A k 2) (hN : N ≤ 160) (h26 : σ.1 0 26 = nI (5 - k)) : ∀ (r i : Nat) (c : List Int32 × kVal) (s : kS), r ≤ 160 → 160 - r ≤ i → i ≤ N → mFr σ s → mAt T N F i s → mRes T N F (pLoop T N opA (pAll T N k 2) r i c) σ Q → gBoth_5 A Q (c.2 (mEnv σ)) s := by
  intro r
  induction r with
  | zero =>
    intro i c s hr hri hi o a res P hP
    refine hP _ _ (m_isWord (w := 4) hi (by decide) a (fun z => ?_) (fun z => ⟨fun _ => res.2 c rfl s o a, fun y => absurd rfl y⟩))
    rw [lC_end (by omega)] at z
    cases z
  | succ r ih =>
    intro i c s hr hri hi o a res P hP
    refine hP _ _ (m_isWord (w := 4) hi (by decide) a (fun z => ⟨fun y => absurd y (by decide), fun _ => ?_⟩) (fun z => ⟨fun _ => ?_, fun y => absurd rfl y⟩))
    · have hop : opA (lC T N i) = some (-10) := if_pos z
      rw [pLoop_some hop] at res
      refine m_stp SUB hi (by omega) (by omega) a (by rw [o.k26]; exact h26) (fun e u v ou du => ?_) (fun d e u ou au hj1 hj2 => ?_)
      · rw [pB_none e] at res
        have out : ∀ w : Int32, P u w := fun w => hP _ _ (m_isWordD du ⟨fun _ => res.1 e u _ (o.tr ou) du, fun y => absurd rfl y⟩)
        exact ⟨fun _ => out 0, fun _ => ⟨fun _ => out 0, fun _ => out 1⟩⟩
      · rw [pB_some e] at res
        have nx : P u (sJoin (-10) (c.2 (mEnv σ)) (d.2 (mEnv σ))) := ih _ (pJn (-10) c d) u (by omega) (by omega) hj2 (o.tr ou) au res P hP
        rw [sJ_and] at nx
        rw [o.env]
        refine ⟨fun q => ?_, fun q => ⟨fun q2 => ?_, fun q2 => ?_⟩⟩
        · rw [if_pos q] at nx
          exact nx
        · rw [if_neg q, if_pos q2] at nx
          exact nx
        · rw [if_neg q, if_neg q2] at nx
          exact nx
    · have hop : opA (lC T N i) = none := if_neg z
      rw [pLoop_none hop] at res
      exact res.2 c rfl s o a
theorem m_both {T : Nat → Nat} {N F k : Nat} {A : kWp} (hN : N ≤ 160) (SUB : mLv T N F A k 2) : mLv T N F (gBoth A) k 1 := by
  intro i σ Q hi a h26 res
  have far := pFar_all (T := T) (N := N) k 2 i hi
  rw [pA_1] at res
  refine SUB i σ _ hi a h26 ⟨fun e u v ou du P hP => ?_, fun c e u ou au => ?_⟩
  · rw [pB_none e] at res
    exact hP _ _ (m_isWordD du ⟨fun _ => res.1 e u _ ou du, fun y => absurd rfl y⟩)
  · rw [pB_some e] at res
    exact m_bothL SUB hN h26 160 _ c u (Nat.le_refl _) (by omega) far.1 ou au res
theorem m_eitherL {T : Nat → Nat} {N F k : Nat} {A : kWp} {σ : kS} {Q : Int32 → kS → Prop} (SUB : mLv T N F A k 1) (hN : N ≤ 160) (h26 : σ.1 0 26 = nI (5 - k)) : ∀ (r i : Nat) (c : List Int32 × kVal) (s : kS), r ≤ 160 → 160 - r ≤ i → i ≤ N → mFr σ s → mAt T N F i s → mRes T N F (pLoop T N opO (pAll T N k 1) r i c) σ Q → gEither_5 A Q (c.2 (mEnv σ)) s := by
  intro r
  induction r with
  | zero =>
    intro i c s hr hri hi o a res P hP
    refine hP _ _ (m_isWord (w := 3) hi (by decide) a (fun z => ?_) (fun z => ⟨fun _ => res.2 c rfl s o a, fun y => absurd rfl y⟩))
    rw [lC_end (by omega)] at z
    cases z
  | succ r ih =>
    intro i c s hr hri hi o a res P hP
    refine hP _ _ (m_isWord (w := 3) hi (by decide) a (fun z => ⟨fun y => absurd y (by decide), fun _ => ?_⟩) (fun z => ⟨fun _ => ?_, fun y => absurd rfl y⟩))
    · have hop : opO (lC T N i) = some (-9) := if_pos z
      rw [pLoop_some hop] at res
      refine m_stp SUB hi (by omega) (by omega) a (by rw [o.k26]; exact h26) (fun e u v ou du => ?_) (fun d e u ou au hj1 hj2 => ?_)
      · rw [pB_none e] at res
        have out : ∀ w : Int32, P u w := fun w => hP _ _ (m_isWordD du ⟨fun _ => res.1 e u _ (o.tr ou) du, fun y => absurd rfl y⟩)
        exact ⟨fun _ => out 1, fun _ => ⟨fun _ => out 0, fun _ => out 1⟩⟩
      · rw [pB_some e] at res
        have nx : P u (sJoin (-9) (c.2 (mEnv σ)) (d.2 (mEnv σ))) := ih _ (pJn (-9) c d) u (by omega) (by omega) hj2 (o.tr ou) au res P hP
        rw [sJ_or] at nx
        rw [o.env]
        refine ⟨fun q => ?_, fun q => ⟨fun q2 => ?_, fun q2 => ?_⟩⟩
        · rw [if_neg q] at nx
          exact nx
        · rw [if_pos q, if_pos q2] at nx
          exact nx
        · rw [if_pos q, if_neg q2] at nx
          exact nx
    · have hop : opO (lC T N i) = none := if_neg z
      rw [pLoop_none hop] at res
      exact res.2 c rfl s o a
theorem m_either {T : Nat → Nat} {N F k : Nat} {A : kWp} (hN : N ≤ 160) (SUB : mLv T N F A k 1) : mLv T N F (gEither A) k 0 := by
  intro i σ Q hi a h26 res
  have far := pFar_all (T := T) (N := N) k 1 i hi
  rw [pA_0] at res
  refine SUB i σ _ hi a h26 ⟨fun e u v ou du P hP => ?_, fun c e u ou au => ?_⟩
  · rw [pB_none e] at res
    exact hP _ _ (m_isWordD du ⟨fun _ => res.1 e u _ ou du, fun y => absurd rfl y⟩)
  · rw [pB_some e] at res
    exact m_eitherL SUB hN h26 160 _ c u (Nat.le_refl _) (by omega) far.1 ou au res
/-- a number, a name, or nothing that can stand there -/
theorem m_leaf {T : Nat → Nat} {N F k i : Nat} {σ : kS} {Q : Int32 → kS → Prop} (hi : i ≤ N) (a : mAt T N F i σ) (h3 : ¬ (lC T N i = 45 ∧ ¬ k = 0)) (h4 : ¬ (lC T N i = 40 ∧ ¬ k = 0)) (res : mRes T N F (pAll T N k 5 i) σ Q) : ((σ.1 0 27) ≠ 0 → wX5_atom5_64 Q (0 : Int32) σ) ∧ ((σ.1 0 27) = 0 → ((σ.1 0 23) ≠ (2 : Int32) → wX5_atom5_64 Q (0 : Int32) σ) ∧ ((σ.1 0 23) = (2 : Int32) → ∀ x9 : Int32, x9 = σ.2.toInt32 → wX5_next σ (fun s10 => Q x9 s10))) := by
  obtain ⟨n1, n2⟩ := a.num
  obtain ⟨w1, w2, w3⟩ := a.word
  have hc : lC T N i < 268 := lC_in
  refine ⟨fun q => absurd a.2.1 q, fun _ => ⟨fun q2 => ⟨fun q => absurd a.2.1 q, fun _ => ?_⟩, fun q2 x9 e9 => ?_⟩⟩
  · have no2 : ¬ lC T N i = 2 := fun z => q2 (n1.mpr z)
    have bad : ¬ 262 ≤ lC T N i → wX5_atom5_98 Q (0 : Int32) σ := by
      intro h262
      rw [pO_bad no2 h262 h3 h4] at res
      exact m_fail a (fun s os ds => res.1 rfl s 0 os ds)
    refine ⟨fun q => bad (fun z => q (w2 (by omega))), fun _ => m_name hi a (fun h => ⟨fun q => absurd a.2.1 q, fun _ => ?_⟩) (fun h s os ds => ?_)⟩
    · rw [pO_name h] at res
      generalize kNm (lC T N i) = o at res ⊢
      exact m_nextA hi a (by omega) (by omega) (fun s os as => res.2 ([o], fun env => sName env o) rfl s os.f as)
    · rw [pO_bad no2 h h3 h4] at res
      exact ⟨fun _ => res.1 rfl s 0 os ds, fun q => absurd q ds.n⟩
  · have h2 := n1.mp q2
    rw [pO_num h2] at res
    rw [e9, n2 h2]
    exact m_nextA hi a (by omega) (by omega) (fun s os as => res.2 _ rfl s os.f as)
theorem m_atom5 {T : Nat → Nat} {N F : Nat} : mLv T N F wX5_atom5 0 5 := by
  intro i σ Q hi a h26 res
  have bad : lC T N i = 45 ∨ lC T N i = 40 → wX5_opens σ (fun r14 s13 => Q (0 : Int32) s13) := by
    intro h
    rw [pO_bad (by omega) (by omega) (fun z => z.2 rfl) (fun z => z.2 rfl)] at res
    exact m_opensD a h26 (fun s os ds => res.1 rfl s 0 os ds)
  refine m_isSign (b := 45) rfl a (fun z => ⟨fun y => absurd y (by decide), fun _ => bad (Or.inl z)⟩) (fun z => ⟨fun _ => ?_, fun y => absurd rfl y⟩)
  refine m_isSign (b := 40) rfl a (fun z => ⟨fun y => absurd y (by decide), fun _ => bad (Or.inr z)⟩) (fun z2 => ⟨fun _ => ?_, fun y => absurd rfl y⟩)
  exact m_leaf hi a (fun y => y.2 rfl) (fun y => y.2 rfl) res
theorem m_atom {T : Nat → Nat} {N F k : Nat} {A E : kWp} (hk : k < 5) (UP5 : mLv T N F A k 5) (UP0 : mLv T N F E k 0) : mLv T N F (gAtom A E) (k + 1) 5 := by
  intro i σ Q hi a h26 res
  obtain ⟨w1, w2, w3⟩ := lE_in (T := T) hi
  refine m_isSign (b := 45) rfl a (fun z => ⟨fun y => absurd y (by decide), fun _ => ?_⟩) (fun z => ⟨fun _ => ?_, fun y => absurd rfl y⟩)
  · rw [pO_minus z] at res
    refine m_opens hk hi a (by omega) (by omega) h26 (fun s os as s26 => ⟨fun y => absurd y (by decide), fun _ => UP5 _ s _ w2 as s26 ⟨fun e u v ou du x25 e25 s17 e17 => ?_, fun d e u ou au x25 e25 s17 e17 => ?_⟩⟩)
    · rw [pB_none e] at res
      exact res.1 e s17 _ (m_close hk h26 (os.tr ou) e17).1 (by rw [e17]; exact du.k26)
    · rw [pB_some e] at res
      obtain ⟨c1, c2⟩ := m_close hk h26 (os.tr ou) e17
      have fin : Q (sTurn (-8) (d.2 (mEnv σ))) s17 := res.2 (pTn (-8) d) rfl s17 c1 (by rw [e17]; exact au.k26)
      have c3 : mEnv s = mEnv σ := by rw [← c2]; exact ou.env.symm
      rw [c3] at e25
      unfold sTurn at fin
      rw [if_pos rfl, ← e25] at fin
      exact fin
  · refine m_isSign (b := 40) rfl a (fun z2 => ⟨fun y => absurd y (by decide), fun _ => ?_⟩) (fun z2 => ⟨fun _ => ?_, fun y => absurd rfl y⟩)
    · rw [pO_paren z2] at res
      have far := pFar_all (T := T) (N := N) k 0 (lE T N i) w2
      refine m_opens hk hi a (by omega) (by omega) h26 (fun s os as s26 => ⟨fun y => absurd y (by decide), fun _ => UP0 _ s _ w2 as s26 ⟨fun e u v ou du => ?_, fun d e u ou au => ?_⟩⟩)
      · rw [pB_none e] at res
        refine m_isSignD du ⟨fun y => absurd rfl y, fun _ => m_failD du (fun s33 e33 => ?_)⟩
        have d33 : mDd (pAll T N k 0 (lE T N i)).1 s33 := by rw [e33]; exact du.k26
        exact ⟨fun _ => res.1 e s33 v (m_close hk h26 (os.tr ou) e33).1 d33, fun q => absurd q d33.n⟩
      · rw [pB_some e] at res
        have c3 : ∀ s33 : kS, s33 = kset u 0 26 ((u.1 0 26) - (1 : Int32)) → mEnv s = mEnv σ := fun s33 e33 => by
          rw [← (m_close hk h26 (os.tr ou) e33).2]
          exact ou.env.symm
        refine m_isSign (b := 41) rfl au (fun y => ⟨fun _ s33 e33 => ?_, fun x => absurd x (by decide)⟩) (fun y => ⟨fun x => absurd rfl x, fun _ => m_fail au (fun u2 ou2 du2 s33 e33 => ?_)⟩)
        · rw [if_pos y] at res
          have a33 : mAt T N F (pAll T N k 0 (lE T N i)).1 s33 := by rw [e33]; exact au.k26
          obtain ⟨c1, c2⟩ := m_close hk h26 (os.tr ou) e33
          refine ⟨fun q => absurd a33.2.1 q, fun _ => m_nextA far.1 a33 (by omega) (by omega) (fun v ov av => ?_)⟩
          rw [c3 s33 e33]
          exact res.2 d rfl v (c1.tr ov.f) av
        · rw [if_neg y] at res
          have d33 : mDd (lP T N (pAll T N k 0 (lE T N i)).1) s33 := by rw [e33]; exact du2.k26
          exact ⟨fun _ => res.1 rfl s33 _ (m_close hk h26 (os.tr (ou.tr ou2)) e33).1 d33, fun q => absurd q d33.n⟩
    · exact m_leaf hi a (fun y => z y.1) (fun y => z2 y.1) res
