/-! pure: years in thought, of the class: counts -/
def sFirstN (D : Nat → Int32) (k : Int32) : Nat → Nat → Int32
  | _, 0 => -1
  | i, r + 1 => if sPop (D i) < k then sFirstN D k (i + 1) r else nI i
def sMost (D : Nat → Int32) : Nat → Int32
  | 0 => 0
  | i + 1 => if sMost D i < sPop (D i) then sPop (D i) else sMost D i
def sKept (D : Nat → Int32) : Nat → Int32 × Int32
  | 0 => (0, 0)
  | i + 1 => if sPop (D i) < (sKept D i).2 then sKept D i else ((sKept D i).1 + 1, sPop (D i))
/-- the DRY cells behind each year -/
def sDrys (W : Nat → Nat → (Nat → Int32) → Int32) (d : Bool) (seed : Int32) (A : kFn) (i : Nat) : Int32 := sDry (sRun W d seed (i + 1) A)
theorem sZ_s {seed : Int32} {i : Nat} : sZ seed (i + 1) = sZ seed i * 1103515245 + 12345 := by rw [sZ]
theorem sRun_t {W : Nat → Nat → (Nat → Int32) → Int32} {seed : Int32} {n : Nat} {A : kFn} : sRun W true seed (n + 1) A = sLive W (sPourAll (sWet (sZ seed (n + 1))) (sRun W true seed n A)) := by
  show sStep W true seed n (sRun W true seed n A) = _
  unfold sStep
  rw [if_pos rfl]
theorem sRun_f {W : Nat → Nat → (Nat → Int32) → Int32} {seed : Int32} {n : Nat} {A : kFn} : sRun W false seed (n + 1) A = sLive W (sRun W false seed n A) := by
  show sStep W false seed n (sRun W false seed n A) = _
  unfold sStep
  rw [if_neg (by decide)]
def xO1 (σ σ' : kS) : Prop := (∀ p : Nat, p ≠ 1 → (p < 12 ∨ 20 < p) → σ'.1 p = σ.1 p) ∧ σ'.2 = σ.2
theorem xO.o1 {σ σ' : kS} (h : xO 12 σ σ') : xO1 σ σ' := ⟨fun p _ hp => h.1 p (by omega), h.2⟩
theorem xO1.tr {σ σ' σ'' : kS} (h : xO1 σ σ') (h' : xO1 σ' σ'') : xO1 σ σ'' := ⟨fun p h1 h2 => (h'.1 p h1 h2).trans (h.1 p h1 h2), h'.2.trans h.2⟩
theorem xO1.rf {σ : kS} : xO1 σ σ := ⟨fun _ _ _ => rfl, rfl⟩
theorem xE.o1 {tx : List kTxt} {σ σ' : kS} (h : xE tx σ) (ho : xO1 σ σ') : xE tx σ' := by
  refine ⟨?_, h.2⟩
  rw [ho.1 0 (by decide) (by decide)]
  exact h.1
theorem xO1_fx {σ σ' : kS} (ho : xO1 σ σ') : fx 3 σ' = fx 3 σ := by
  funext r i
  unfold fx
  split
  · rw [ho.1 _ (by omega) (by omega)]
  · rfl
theorem x_think {σ : kS} {Q : kS → Prop} (h : ∀ σ' : kS, nf (fx 12 σ') = nf (fx 3 σ) → xO 12 σ σ' → Q σ') : wX4_think σ Q := x_take (Or.inr (by decide)) h
theorem x_behind {tx : List kTxt} {n : Nat} {σ : kS} {Q : Int32 → kS → Prop} (hn : n < 1000) (hE : xE tx σ) (hO : sOk tx.length (fx 12 σ)) (h : ∀ σ' : kS, xO 12 σ σ' → Q (sDry (sRun (sW tx) false 0 n (fx 12 σ))) σ') : wX4_dryBehind tx (nI n) σ Q := by
  intro P hP
  suffices key : ∀ k i : Nat, i + k = n → ∀ s : kS, fx 12 s = sRun (sW tx) false 0 i (fx 12 σ) → xO 12 σ s → P s (nI i) from key n 0 (by omega) σ rfl xO.rf
  intro k
  induction k with
  | zero =>
    intro i hi s f o
    have e : i = n := by omega
    subst e
    refine hP _ _ ⟨fun _ => x_dryCells ?_, fun q => absurd (Int32.le_refl _) q⟩
    rw [f]
    exact h s o
  | succ k ih =>
    intro i hi s f o
    refine hP _ _ ⟨fun q => absurd q (nI_ge (by omega) (by omega)), fun _ => x_live (hE.o o (by decide)) (by rw [f]; exact (sRun_ok hO i).1) (fun s2 f2 o2 x ex => ?_)⟩
    rw [ex, k_n1]
    refine ih (i + 1) (by omega) s2 ?_ (o.tr o2)
    rw [f2, f, sRun_f]
theorem x_years {tx : List kTxt} {n : Nat} {σ : kS} {Q : kS → Prop} (hn : n ≤ 30) (hE : xE tx σ) (hO : sOk tx.length (fx 3 σ)) (h : ∀ σ' : kS, xO1 σ σ' → nf (fx 12 σ') = sRun (sW tx) false 0 n (nf (fx 3 σ)) → (∀ i : Nat, i < n → σ'.1 1 i = sDrys (sW tx) false 0 (nf (fx 3 σ)) i) → Q σ') : wX4_thinkYears tx (nI n) σ Q := by
  refine x_think (fun s0 f0 o0 => ?_)
  intro P hP
  suffices key : ∀ k i : Nat, i + k = n → ∀ s : kS, nf (fx 12 s) = sRun (sW tx) false 0 i (nf (fx 3 σ)) → xO1 σ s → (∀ j : Nat, j < i → s.1 1 j = sDrys (sW tx) false 0 (nf (fx 3 σ)) j) → P s (nI i) from key n 0 (by omega) s0 f0 o0.o1 (fun j hj => absurd hj (by omega))
  intro k
  induction k with
  | zero =>
    intro i hi s f o hd
    have e : i = n := by omega
    subst e
    exact hP _ _ ⟨fun _ => h s o f hd, fun q => absurd (Int32.le_refl _) q⟩
  | succ k ih =>
    intro i hi s f o hd
    have ok : sOk tx.length (fx 12 s) := nf_ok.mp (by rw [f]; exact (sRun_ok (nf_ok.mpr hO) i).1)
    refine hP _ _ ⟨fun q => absurd q (nI_ge (by omega) (by omega)), fun _ => ⟨fun q => absurd q (nI_ge (b := 30) (by omega) (by omega)), fun _ => x_live (hE.o1 o) ok (fun s2 f2 o2 => x_dryCells ⟨k_idx (by omega) (by decide), fun s9 e9 x ex => ?_⟩)⟩⟩
    rw [ex, k_n1]
    rw [k_cl (by omega)] at e9
    have f3 : nf (fx 12 s2) = sRun (sW tx) false 0 (i + 1) (nf (fx 3 σ)) := by
      rw [f2, ← (sLive_ok ok).2.1, f, sRun_f]
    have f4 : fx 12 s9 = fx 12 s2 := by
      rw [e9]
      funext r j
      unfold fx
      split
      · rw [kset_off (by omega)]
      · rfl
    have o3 : xO1 s2 s9 := by
      rw [e9]
      exact ⟨fun p hp _ => kset_off hp, rfl⟩
    refine ih (i + 1) (by omega) s9 (by rw [f4]; exact f3) ((o.tr o2.o1).tr o3) (fun j hj => ?_)
    by_cases hji : j = i
    · subst hji
      rw [e9, kset_at, ← nf_dry, f3]
      rfl
    · rw [e9, kset_ne hji, o2.1 1 (by decide)]
      exact hd j (by omega)
theorem x_drawn {tx : List kTxt} {n : Nat} {seed : Int32} {σ : kS} {Q : Int32 → kS → Prop} (hn : n < 1000) (hE : xE tx σ) (hO : sOk tx.length (fx 3 σ)) (h : ∀ σ' : kS, xO1 σ σ' → Q (sPop (sDry (sRun (sW tx) true seed n (nf (fx 3 σ))))) σ') : wX4_dryDrawn tx seed (nI n) σ Q := by
  refine x_think (fun s0 f0 o0 => ?_)
  intro P hP
  suffices key : ∀ k i : Nat, i + k = n → ∀ s : kS, nf (fx 12 s) = sRun (sW tx) true seed i (nf (fx 3 σ)) → xO1 σ s → P s (sZ seed i) (nI i) from key n 0 (by omega) s0 f0 o0.o1
  intro k
  induction k with
  | zero =>
    intro i hi s f o
    have e : i = n := by omega
    subst e
    refine hP _ _ _ ⟨fun _ => x_dryCells (x_pop ?_), fun q => absurd (Int32.le_refl _) q⟩
    rw [← nf_dry, f]
    exact h s o
  | succ k ih =>
    intro i hi s f o
    have ok : sOk tx.length (fx 12 s) := nf_ok.mp (by rw [f]; exact (sRun_ok (nf_ok.mpr hO) i).1)
    refine hP _ _ _ ⟨fun q => absurd q (nI_ge (by omega) (by omega)), fun _ x6 e6 => ?_⟩
    rw [← sZ_s] at e6
    subst e6
    refine x_pourOnAll (nt := tx.length) (fun s1 f1 o1 => ?_)
    have f1 : fx 12 s1 = sPourAll (sWet (sZ seed (i + 1))) (fx 12 s) := f1
    have pk := sPourAll_ok (m := sWet (sZ seed (i + 1))) sWet_in ok
    refine x_live ((hE.o1 o).o o1 (by decide)) (by rw [f1]; exact pk.1) (fun s2 f2 o2 x ex => ?_)
    rw [ex, k_n1]
    refine ih (i + 1) (by omega) s2 ?_ ((o.tr o1.o1).tr o2.o1)
    rw [f2, f1, ← (sLive_ok pk.1).2.1, ← pk.2.1, f, sRun_t]
theorem x_firstDried {n : Nat} {k : Int32} {D : Nat → Int32} {σ : kS} {Q : Int32 → kS → Prop} (hn : n ≤ 30) (hD : ∀ i : Nat, i < n → σ.1 1 i = D i) (h : Q (sFirstN D k 0 n) σ) : wX4_firstDried (nI n) k σ Q := by
  intro P hP
  suffices key : ∀ r i : Nat, i + r = n → sFirstN D k i r = sFirstN D k 0 n → P (nI i) from key n 0 (by omega) rfl
  intro r
  induction r with
  | zero =>
    intro i hi e
    have e2 : i = n := by omega
    subst e2
    refine hP _ ⟨fun _ => ?_, fun q => absurd (Int32.le_refl _) q⟩
    rw [← e] at h
    exact h
  | succ r ih =>
    intro i hi e
    refine hP _ ⟨fun q => absurd q (nI_ge (by omega) (by omega)), fun _ => ⟨fun q => absurd q (nI_ge (b := 30) (by omega) (by omega)), fun _ => ⟨k_idx (by omega) (by decide), x_pop ⟨fun q x ex => ?_, fun q => ?_⟩⟩⟩⟩
    · rw [k_cl (by omega), hD i (by omega)] at q
      rw [ex, k_n1]
      refine ih (i + 1) (by omega) ?_
      rw [← e]
      exact (if_pos q).symm
    · rw [k_cl (by omega), hD i (by omega)] at q
      have e3 : sFirstN D k i (r + 1) = nI i := if_neg q
      rw [e3] at e
      rw [e]
      exact h
theorem x_mostDry {n : Nat} {D : Nat → Int32} {σ : kS} {Q : Int32 → kS → Prop} (hn : n ≤ 30) (hD : ∀ i : Nat, i < n → σ.1 1 i = D i) (h : Q (sMost D n) σ) : wX4_mostDry (nI n) σ Q := by
  intro P hP
  suffices key : ∀ r i : Nat, i + r = n → P (sMost D i) (nI i) from key n 0 (by omega)
  intro r
  induction r with
  | zero =>
    intro i hi
    have e2 : i = n := by omega
    subst e2
    exact hP _ _ ⟨fun _ => h, fun q => absurd (Int32.le_refl _) q⟩
  | succ r ih =>
    intro i hi
    refine hP _ _ ⟨fun q => absurd q (nI_ge (by omega) (by omega)), fun _ => ⟨fun q => absurd q (nI_ge (b := 30) (by omega) (by omega)), fun _ => ⟨k_idx (by omega) (by decide), x_pop (fun x4 e4 x ex => ?_)⟩⟩⟩
    rw [k_cl (by omega), hD i (by omega)] at e4
    rw [ex, k_n1, e4]
    exact ih (i + 1) (by omega)
theorem x_keptYears {n : Nat} {D : Nat → Int32} {σ : kS} {Q : Int32 → kS → Prop} (hn : n ≤ 30) (hD : ∀ i : Nat, i < n → σ.1 1 i = D i) (h : Q (sKept D n).1 σ) : wX4_keptYears (nI n) σ Q := by
  intro P hP
  suffices key : ∀ r i : Nat, i + r = n → P (sKept D i).1 (sKept D i).2 (nI i) from key n 0 (by omega)
  intro r
  induction r with
  | zero =>
    intro i hi
    have e2 : i = n := by omega
    subst e2
    exact hP _ _ _ ⟨fun _ => h, fun q => absurd (Int32.le_refl _) q⟩
  | succ r ih =>
    intro i hi
    have e := ih (i + 1) (by omega)
    refine hP _ _ _ ⟨fun q => absurd q (nI_ge (by omega) (by omega)), fun _ => ⟨fun q => absurd q (nI_ge (b := 30) (by omega) (by omega)), fun _ => ⟨k_idx (by omega) (by decide), x_pop ⟨fun q x ex => ?_, fun q x6 e6 x7 e7 => ?_⟩⟩⟩⟩
    · rw [k_cl (by omega), hD i (by omega)] at q
      rw [show sKept D (i + 1) = sKept D i from if_pos q] at e
      rw [ex, k_n1]
      exact e
    · rw [k_cl (by omega), hD i (by omega)] at q
      rw [show sKept D (i + 1) = ((sKept D i).1 + 1, sPop (D i)) from if_neg q] at e
      rw [e7, k_n1, e6, k_cl (by omega), hD i (by omega)]
      exact e
