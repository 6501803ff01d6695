/-! the class reads as the pure parser does -/
def xAt (T : Nat → Nat) (N i : Nat) (σ : kS) : Prop := xTp T N σ ∧ σ.1 30 6 = -1 ∧ σ.1 30 3 = nI (lC T N i) ∧ σ.1 30 4 = nI (lP T N i) ∧ σ.1 30 2 = nI (lE T N i) ∧ (lC T N i = 2 → σ.1 30 5 = nI (lA T N i))
/-- a fault was found at f -/
def xDd (f : Nat) (σ : kS) : Prop := f ≤ 160 ∧ σ.1 30 6 = nI f ∧ σ.1 30 3 = 1 ∧ ∃ l : Nat, l ≤ 160 ∧ σ.1 30 8 = nI l
def xRf (σ σ' : kS) : Prop := (∀ p : Nat, p ≠ 30 → p ≠ 32 → σ'.1 p = σ.1 p) ∧ (∀ k : Nat, k ≠ 2 → k ≠ 3 → k ≠ 4 → k ≠ 5 → k ≠ 6 → k ≠ 8 → σ'.1 30 k = σ.1 30 k) ∧ σ'.2 = σ.2
theorem xRf.rf {σ : kS} : xRf σ σ := ⟨fun _ _ _ => rfl, fun _ _ _ _ _ _ _ => rfl, rfl⟩
theorem xRf.tr {σ σ' σ'' : kS} (h : xRf σ σ') (h' : xRf σ' σ'') : xRf σ σ'' := ⟨fun p hp hq => (h'.1 p hp hq).trans (h.1 p hp hq), fun k k2 k3 k4 k5 k6 k8 => (h'.2.1 k k2 k3 k4 k5 k6 k8).trans (h.2.1 k k2 k3 k4 k5 k6 k8), h'.2.2.trans h.2.2⟩
theorem xNf.r {σ σ' : kS} (h : xNf σ σ') : xRf σ σ' := ⟨fun p hp _ => h.1 p hp, fun k k2 k3 k4 k5 _ _ => h.2.1 k k2 k3 k4 k5, h.2.2⟩
theorem xRf.set {σ : kS} {i : Nat} {v : Int32} (hi : i = 2 ∨ i = 3 ∨ i = 4 ∨ i = 5 ∨ i = 6 ∨ i = 8) : xRf σ (kset σ 30 i v) := ⟨fun p hp _ => kset_off hp, fun k _ _ _ _ _ _ => kset_ne (by omega), rfl⟩
theorem xRf.set32 {σ : kS} {i : Nat} {v : Int32} : xRf σ (kset σ 32 i v) := ⟨fun p _ hp => kset_off hp, fun k _ _ _ _ _ _ => by rw [kset_off (by decide)], rfl⟩
theorem xTp.rf {T : Nat → Nat} {N : Nat} {σ σ' : kS} (h : xTp T N σ) (ho : xRf σ σ') : xTp T N σ' := by
  refine ⟨h.1, ?_, fun j hj => ?_⟩
  · rw [ho.2.1 1 (by decide) (by decide) (by decide) (by decide) (by decide) (by decide)]
    exact h.2.1
  · rw [ho.1 31 (by decide) (by decide)]
    exact h.2.2 j hj
def xHold (f : Nat → Int32) : Nat → List Int32 → Prop
  | _, [] => True
  | m, o :: l => f m = o ∧ xHold f (m + 1) l
theorem xHold_app {f : Nat → Int32} {r : List Int32} : ∀ (l : List Int32) (m : Nat), xHold f m l → xHold f (m + l.length) r → xHold f m (l ++ r) := by
  intro l
  induction l with
  | nil => exact fun m _ h => h
  | cons o l ih =>
    intro m h1 h2
    refine ⟨h1.1, ih (m + 1) h1.2 ?_⟩
    rw [show m + 1 + l.length = m + (o :: l).length by rw [List.length_cons]; omega]
    exact h2
theorem xHold_eq {f g : Nat → Int32} : ∀ (l : List Int32) (m : Nat), (∀ j : Nat, m ≤ j → j < m + l.length → g j = f j) → xHold f m l → xHold g m l := by
  intro l
  induction l with
  | nil => exact fun m _ h => h
  | cons o l ih =>
    intro m he h
    rw [List.length_cons] at he
    exact ⟨(he m (Nat.le_refl _) (by omega)).trans h.1, ih (m + 1) (fun j h1 h2 => he j (by omega) (by omega)) h.2⟩
/-- what a reading that gives r has to lead to -/
def xRes (T : Nat → Nat) (N : Nat) (r : pRs) (m : Nat) (σ : kS) (Q : kS → Prop) : Prop :=
  (r.2 = none → ∀ s : kS, xRf σ s → xDd r.1 s → Q s) ∧ ∀ c : List Int32 × kVal, r.2 = some c → ∀ s : kS, xRf σ s → xAt T N r.1 s → s.1 30 8 = nI (m + c.1.length) → xHold (s.1 32) m c.1 → (∀ j : Nat, j < m → s.1 32 j = σ.1 32 j) → Q s
theorem xRes.mv {T : Nat → Nat} {N m : Nat} {r : pRs} {σ s : kS} {Q : kS → Prop} (h : xRes T N r m σ Q) (ho : xRf σ s) (hm : ∀ j : Nat, j < m → s.1 32 j = σ.1 32 j) : xRes T N r m s Q :=
  ⟨fun e u ou du => h.1 e u (ho.tr ou) du, fun c e u ou au lu hu mu => h.2 c e u (ho.tr ou) au lu hu (fun j hj => (mu j hj).trans (hm j hj))⟩
theorem x_emit {l : Nat} {v : Int32} {σ : kS} {Q : kS → Prop} (hl : σ.1 30 8 = nI l) (h160 : l < 160) (h : ∀ s : kS, s = kset (kset σ 32 l v) 30 8 (nI (l + 1)) → Q s) : wX1_emit v σ Q := by
  unfold wX1_emit
  rw [hl, k_cl (by omega)]
  refine ⟨fun q => absurd q (nI_ge (b := 160) h160 (by decide)), fun _ => ⟨k_idx h160 (by decide), fun s2 e2 s3 e3 => h s3 ?_⟩⟩
  have e8 : s2.1 30 8 = nI l := by rw [e2, kset_off (by decide)]; exact hl
  rw [e3, e8, k_n1, e2]
theorem x_emitD {f : Nat} {v : Int32} {σ : kS} {Q : kS → Prop} (hD : xDd f σ) (h : ∀ s : kS, xRf σ s → xDd f s → Q s) : wX1_emit v σ Q := by
  obtain ⟨d1, d2, d3, l, d4, d5⟩ := hD
  rcases Nat.lt_or_ge l 160 with z | z
  · refine x_emit d5 z (fun s e => h s ?_ ⟨d1, ?_, ?_, l + 1, by omega, ?_⟩)
    · rw [e]
      exact xRf.set32.tr (xRf.set (by omega))
    · rw [e, kset_ne (by decide), kset_off (by decide)]; exact d2
    · rw [e, kset_ne (by decide), kset_off (by decide)]; exact d3
    · rw [e, kset_at]
  · refine ⟨fun _ => h σ xRf.rf ⟨d1, d2, d3, l, d4, d5⟩, fun q => absurd ?_ q⟩
    rw [d5]
    exact nI_le (a := 160) z (by omega)
theorem x_fail {T : Nat → Nat} {N i l : Nat} {σ : kS} {Q : kS → Prop} (hi : i ≤ N) (hA : xAt T N i σ) (hl : l ≤ 160) (e8 : σ.1 30 8 = nI l) (h : ∀ s : kS, xRf σ s → xDd (lP T N i) s → Q s) : wX1_fail σ Q := by
  obtain ⟨a1, a2, a3, a4, a5, a6⟩ := hA
  have hp := (lP_in (T := T) hi).2
  have hN := a1.1
  refine ⟨fun q => absurd a2 q, fun _ s2 e2 s3 e3 => h s3 ?_ ⟨by omega, ?_, ?_, l, hl, ?_⟩⟩
  · rw [e3, e2]
    exact (xRf.set (by omega)).tr (xRf.set (by omega))
  · rw [e3, kset_ne (by decide), e2, kset_at]
    exact a4
  · rw [e3, kset_at]
  · rw [e3, kset_ne (by decide), e2, kset_ne (by decide)]
    exact e8
theorem xDd.ne {f : Nat} {σ : kS} (h : xDd f σ) : ¬ σ.1 30 6 = -1 := by
  have := h.1
  rw [h.2.1]
  exact nI_nm1 (by omega)
theorem x_failD {f : Nat} {σ : kS} {Q : kS → Prop} (hD : xDd f σ) (h : Q σ) : wX1_fail σ Q := ⟨fun _ => h, fun q => absurd q hD.ne⟩
theorem x_nextA {T : Nat → Nat} {N i : Nat} {σ : kS} {Q : kS → Prop} (hi : i ≤ N) (hA : xAt T N i σ) (h : ∀ s : kS, xNf σ s → xAt T N (lE T N i) s → Q s) : wX1_next σ Q := by
  obtain ⟨a1, a2, a3, a4, a5, a6⟩ := hA
  refine x_next a1 (lE_in hi).2.1 a5 a2 (fun s o c p e n => h s o ⟨a1.nf o, ?_, c, p, e, n⟩)
  rw [o.2.1 6 (by decide) (by decide) (by decide) (by decide)]
  exact a2
theorem x_expect {T : Nat → Nat} {N i l w : Nat} {σ : kS} {Q : kS → Prop} (hi : i ≤ N) (hA : xAt T N i σ) (hw : w < 1000) (hl : l ≤ 160) (e8 : σ.1 30 8 = nI l) (h1 : lC T N i = w → ∀ s : kS, xNf σ s → xAt T N (lE T N i) s → Q s) (h0 : ¬ lC T N i = w → ∀ s : kS, xRf σ s → xDd (lP T N i) s → Q s) : wX1_expect (nI w) σ Q := by
  have hc : lC T N i < 268 := lC_in
  have e3 := hA.2.2.1
  refine ⟨fun q => x_fail hi hA hl e8 (h0 (fun z => q ?_)), fun q => x_nextA hi hA (h1 ?_)⟩
  · rw [e3, z]
  · rw [e3] at q
    exact (nI_eq (by omega) (by omega)).mp q
theorem x_expectD {f w : Nat} {σ : kS} {Q : kS → Prop} (hD : xDd f σ) (hw : w < 1000) (h1 : w ≠ 1) (h : Q σ) : wX1_expect (nI w) σ Q := by
  refine ⟨fun _ => x_failD hD h, fun q => ?_⟩
  rw [hD.2.2.1] at q
  have := (nI_eq (a := 1) (by decide) (by omega)).mp q
  omega
/-! what is dead stays dead -/
theorem xDd.tok {f : Nat} {σ : kS} (h : xDd f σ) {c : Int32} (hc : ¬ (1 : Int32) = c) : ¬ σ.1 30 3 = c := by
  rw [h.2.2.1]
  exact hc
theorem xd_one {d f : Nat} {o : Int32} {σ : kS} {Q : kS → Prop} (hD : xDd f σ) (h : ∀ s : kS, xRf σ s → xDd f s → Q s) : wRd (d + 1) 5 o σ Q := by
  show wX1_readOne (wRd d) o σ Q
  have e3 := hD.2.2.1
  refine ⟨fun _ => ⟨fun _ => ⟨fun _ => ⟨fun _ => x_failD hD (h σ xRf.rf hD), fun q => absurd q (hD.tok (by decide))⟩, fun q => absurd q (hD.tok (by decide))⟩, fun q => absurd ?_ q⟩, fun q => absurd q (hD.tok (by decide))⟩
  rw [e3]
  decide
theorem xd_term {d f : Nat} {o : Int32} {σ : kS} {Q : kS → Prop} (hD : xDd f σ) (h : ∀ s : kS, xRf σ s → xDd f s → Q s) : wRd (d + 2) 4 o σ Q := by
  show wX1_readTerm (wRd (d + 1)) o σ Q
  exact xd_one hD (fun s os ds P hP => hP _ _ ⟨fun _ => h s os ds, fun _ => ⟨fun _ => h s os ds, fun q => absurd q (ds.tok (by decide))⟩⟩)
theorem xd_sum {d f : Nat} {o : Int32} {σ : kS} {Q : kS → Prop} (hD : xDd f σ) (h : ∀ s : kS, xRf σ s → xDd f s → Q s) : wRd (d + 3) 3 o σ Q := by
  show wX1_readSum (wRd (d + 2)) o σ Q
  exact xd_term hD (fun s os ds P hP => hP _ _ ⟨fun _ => h s os ds, fun _ => ⟨fun q => absurd q (ds.tok (by decide)), fun _ => ⟨fun _ => h s os ds, fun q => absurd q (ds.tok (by decide))⟩⟩⟩)
theorem xd_not {d f : Nat} {o : Int32} {σ : kS} {Q : kS → Prop} (hD : xDd f σ) (h : ∀ s : kS, xRf σ s → xDd f s → Q s) : wRd (d + 4) 2 o σ Q := by
  show wX1_readNot (wRd (d + 3)) o σ Q
  refine ⟨fun _ => xd_sum hD (fun s os ds => ⟨fun q => absurd q (ds.tok (by decide)), fun _ => ⟨fun _ => h s os ds, fun q => absurd q (ds.tok (by decide))⟩⟩), fun q => absurd q (hD.tok (by decide))⟩
theorem xd_both {d f : Nat} {o : Int32} {σ : kS} {Q : kS → Prop} (hD : xDd f σ) (h : ∀ s : kS, xRf σ s → xDd f s → Q s) : wRd (d + 5) 1 o σ Q := by
  show wX1_readBoth (wRd (d + 4)) o σ Q
  exact xd_not hD (fun s os ds P hP => hP _ _ ⟨fun _ => h s os ds, fun _ => ⟨fun _ => h s os ds, fun q => absurd q (ds.tok (by decide))⟩⟩)
theorem xd_either {d f : Nat} {o : Int32} {σ : kS} {Q : kS → Prop} (hD : xDd f σ) (h : ∀ s : kS, xRf σ s → xDd f s → Q s) : wRd (d + 6) 0 o σ Q := by
  show wX1_readEither (wRd (d + 5)) o σ Q
  exact xd_both hD (fun s os ds P hP => hP _ _ ⟨fun _ => h s os ds, fun _ => ⟨fun _ => h s os ds, fun q => absurd q (ds.tok (by decide))⟩⟩)
/-! levels -/
def xLv (T : Nat → Nat) (N k lv : Nat) : Prop := ∀ d : Nat, 6 * k + 6 - lv ≤ d → ∀ (i m : Nat) (σ : kS) (Q : kS → Prop), i ≤ N → xAt T N i σ → σ.1 30 8 = nI m → m + (N - i) ≤ 160 → xRes T N (pAll T N k lv i) m σ Q → wRd d lv (nI (5 - k)) σ Q
/-- a sign, what stands behind it, and its code -/
theorem x_step {T : Nat → Nat} {N k sub d m i : Nat} {c : List Int32} {o : Int32} {s : kS} {K : kS → Prop} (SUB : xLv T N k sub) (hd : 6 * k + 6 - sub ≤ d) (hi : i ≤ N) (hne : lC T N i ≠ 0) (hA : xAt T N i s) (len : s.1 30 8 = nI (m + c.length)) (hold : xHold (s.1 32) m c) (hb : m + c.length + (N - i) ≤ 160)
    (h0 : (pAll T N k sub (lE T N i)).2 = none → ∀ u : kS, xRf s u → xDd (pAll T N k sub (lE T N i)).1 u → K u)
    (h1 : ∀ dd : List Int32 × kVal, (pAll T N k sub (lE T N i)).2 = some dd → ∀ u : kS, xRf s u → xAt T N (pAll T N k sub (lE T N i)).1 u → u.1 30 8 = nI (m + (c ++ (dd.1 ++ [o])).length) → xHold (u.1 32) m (c ++ (dd.1 ++ [o])) → (∀ j : Nat, j < m → u.1 32 j = s.1 32 j) → m + (c ++ (dd.1 ++ [o])).length + (N - (pAll T N k sub (lE T N i)).1) ≤ 160 → i + 1 ≤ (pAll T N k sub (lE T N i)).1 → (pAll T N k sub (lE T N i)).1 ≤ N → K u) : wX1_next s (fun s4 => wRd d sub (nI (5 - k)) s4 (fun s5 => wX1_emit o s5 K)) := by
  obtain ⟨e1, e2, e3⟩ := lE_in (T := T) hi
  have e3 := e3 hne
  have far := pFar_all (T := T) (N := N) k sub (lE T N i) e2
  refine x_nextA hi hA (fun s4 o4 a4 => SUB d hd (lE T N i) (m + c.length) s4 _ e2 a4 ?_ (by omega) ⟨fun hn u ou du => ?_, fun dd hs u ou au lu hu mu => ?_⟩)
  · rw [o4.2.1 8 (by decide) (by decide) (by decide) (by decide)]
    exact len
  · exact x_emitD du (fun v ov dv => h0 hn v (o4.r.tr (ou.tr ov)) dv)
  · obtain ⟨f1, f2⟩ := far.2 dd hs
    have f3 := far.1
    refine x_emit lu (by omega) (fun v ev => h1 dd hs v ?_ ?_ ?_ ?_ ?_ ?_ (by omega) f3)
    · rw [ev]
      exact o4.r.tr (ou.tr (xRf.set32.tr (xRf.set (by omega))))
    · obtain ⟨a1, a2, a3, a4', a5, a6⟩ := au
      have ov : xRf u v := by rw [ev]; exact xRf.set32.tr (xRf.set (by omega))
      have z : ∀ q : Nat, q ≠ 8 → v.1 30 q = u.1 30 q := fun q hq => by rw [ev, kset_ne hq, kset_off (by decide)]
      refine ⟨a1.rf ov, ?_, ?_, ?_, ?_, fun y => ?_⟩
      · rw [z 6 (by decide)]; exact a2
      · rw [z 3 (by decide)]; exact a3
      · rw [z 4 (by decide)]; exact a4'
      · rw [z 2 (by decide)]; exact a5
      · rw [z 5 (by decide)]; exact a6 y
    · rw [ev, kset_at, List.length_append, List.length_append]
      show nI (m + c.length + dd.1.length + 1) = nI (m + (c.length + (dd.1.length + 1)))
      rw [show m + c.length + dd.1.length + 1 = m + (c.length + (dd.1.length + 1)) by omega]
    · have v32 : ∀ j : Nat, j ≠ m + c.length + dd.1.length → v.1 32 j = u.1 32 j := fun j hj => by rw [ev, kset_off (by decide), kset_ne hj]
      have c1 : xHold (v.1 32) m c := xHold_eq c m (fun j j1 j2 => by rw [v32 j (by omega), mu j j2, o4.1 32 (by decide)]) hold
      have c2 : xHold (v.1 32) (m + c.length) dd.1 := xHold_eq dd.1 _ (fun j j1 j2 => v32 j (by omega)) hu
      refine xHold_app c m c1 (xHold_app dd.1 _ c2 ⟨?_, trivial⟩)
      rw [ev, kset_off (by decide), kset_at]
    · intro j hj
      rw [ev, kset_off (by decide), kset_ne (by omega), mu j (by omega), o4.1 32 (by decide)]
    · rw [List.length_append, List.length_append]
      show m + (c.length + (dd.1.length + 1)) + (N - (pAll T N k sub (lE T N i)).1) ≤ 160
      omega
theorem pA_0 {T : Nat → Nat} {N k i : Nat} : pAll T N k 0 i = pB (pAll T N k 1 i) (pLoop T N opO (pAll T N k 1) 160) := by cases k <;> rfl
theorem pA_1 {T : Nat → Nat} {N k i : Nat} : pAll T N k 1 i = pB (pAll T N k 2 i) (pLoop T N opA (pAll T N k 2) 160) := by cases k <;> rfl
theorem pA_3 {T : Nat → Nat} {N k i : Nat} : pAll T N k 3 i = pB (pAll T N k 4 i) (pLoop T N opS (pAll T N k 4) 160) := by cases k <;> rfl
theorem pA_4 {T : Nat → Nat} {N k i : Nat} : pAll T N k 4 i = pB (pAll T N k 5 i) (pLoop T N opT (pAll T N k 5) 160) := by cases k <;> rfl
theorem pLoop_none {T : Nat → Nat} {N r i : Nat} {op : Nat → Option Int32} {sub : Nat → pRs} {c : List Int32 × kVal} (h : op (lC T N i) = none) : pLoop T N op sub (r + 1) i c = (i, some c) := by
  show (match op (lC T N i) with | none => (i, some c) | some o => pB (sub (lE T N i)) (fun j d => pLoop T N op sub r j (pJn o c d))) = _
  rw [h]
theorem pLoop_some {T : Nat → Nat} {N r i : Nat} {op : Nat → Option Int32} {sub : Nat → pRs} {c : List Int32 × kVal} {o : Int32} (h : op (lC T N i) = some o) : pLoop T N op sub (r + 1) i c = pB (sub (lE T N i)) (fun j d => pLoop T N op sub r j (pJn o c d)) := by
  show (match op (lC T N i) with | none => (i, some c) | some o => pB (sub (lE T N i)) (fun j d => pLoop T N op sub r j (pJn o c d))) = _
  rw [h]
