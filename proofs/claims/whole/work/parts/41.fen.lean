/-! pure: a fen as rows of numbers (0 its scalars: 8 river 9 year 10 paid 11 works 12 rule; 1 height 2 peat 3 water 4 kind 5 number 6 place 7 going); what a year does to it -/
abbrev kFn : Type := Nat → Nat → Int32
def fset (A : kFn) (r i : Nat) (v : Int32) : kFn := fun p j => if p = r then (if j = i then v else A r j) else A p j
def fx (b : Nat) (σ : kS) : kFn := fun r i => if r ≤ 7 then σ.1 (b + r) i else 0
/-- outside the fen at b nothing has changed -/
def xO (b : Nat) (σ σ' : kS) : Prop := (∀ p : Nat, (p < b ∨ b + 8 < p) → σ'.1 p = σ.1 p) ∧ σ'.2 = σ.2
theorem xO.rf {b : Nat} {σ : kS} : xO b σ σ := ⟨fun _ _ => rfl, rfl⟩
theorem xO.tr {b : Nat} {σ σ' σ'' : kS} (h : xO b σ σ') (h' : xO b σ' σ'') : xO b σ σ'' := ⟨fun p hp => (h'.1 p hp).trans (h.1 p hp), h'.2.trans h.2⟩
theorem xO.set {b r i : Nat} {σ : kS} {v : Int32} (hr : r ≤ 8) : xO b σ (kset σ (b + r) i v) := ⟨fun p hp => by
  show (if p = b + r then _ else σ.1 p) = _
  rw [if_neg (by omega)], rfl⟩
theorem xO.set0 {b i : Nat} {σ : kS} {v : Int32} : xO b σ (kset σ b i v) := xO.set (r := 0) (by omega)
theorem fx_set {b r i : Nat} {σ : kS} {v : Int32} (hr : r ≤ 7) : fx b (kset σ (b + r) i v) = fset (fx b σ) r i v := by
  funext p j
  unfold fx fset kset kput upd
  by_cases h1 : p ≤ 7
  · by_cases h2 : p = r
    · subst h2
      simp [h1]
    · simp [h1, h2]
  · have h2 : ¬ p = r := by omega
    simp [h1, h2]
theorem fx_set0 {b i : Nat} {σ : kS} {v : Int32} : fx b (kset σ b i v) = fset (fx b σ) 0 i v := fx_set (r := 0) (by omega)
theorem fx_stack {b i : Nat} {σ : kS} {v : Int32} : fx b (kset σ (b + 8) i v) = fx b σ := by
  funext p j
  unfold fx kset kput
  by_cases h1 : p ≤ 7
  · have h2 : ¬ p = 8 := by omega
    simp [h1, h2]
  · simp [h1]
theorem kset_at {σ : kS} {p i : Nat} {v : Int32} : (kset σ p i v).1 p i = v := by simp [kset, kput, upd]
theorem kset_ne {σ : kS} {p i j : Nat} {v : Int32} (h : j ≠ i) : (kset σ p i v).1 p j = σ.1 p j := by simp [kset, kput, upd, h]
theorem kset_off {σ : kS} {p q i : Nat} {v : Int32} (h : q ≠ p) : (kset σ p i v).1 q = σ.1 q := by simp [kset, kput, h]
theorem k_ge {c N : Nat} (h : c < N) (hN : N < 2 ^ 31) {x : Int32} (hx : x = nI N) : ¬ x ≤ nI c := by rw [hx]; exact nI_ge h hN
theorem k_at {N : Nat} {x : Int32} (hx : x = nI N) : x ≤ nI N := by rw [hx]; exact Int32.le_refl _
theorem k_idx {c N : Nat} (h : c < N) (hN : N < 2 ^ 31) : vp_in (nI c) N := vp_in_nI h hN
theorem k_n1 {c : Nat} : nI c + (1 : Int32) = nI (c + 1) := nI_1 c
theorem k_cl {c : Nat} (h : c < 1000000) : (nI c).toNatClampNeg = c := nI_clamp (by omega)
theorem k_nn {c : Nat} (h : c < 1000000) : ¬ nI c < 0 := nI_pos (by omega)
def kfor {α : Type} : Nat → (Nat → α → α) → α → α
  | 0, _, x => x
  | n + 1, f, x => f n (kfor n f x)
/-! the year -/
def sPour (A : kFn) (c : Nat) (m : Int32) : kFn := fset A 3 c (if A 3 c + m < 999 then A 3 c + m else 999)
def sCnt (A : kFn) (c : Int32) : Nat → Int32
  | 0 => 0
  | w + 1 => if A 6 w = c then sCnt A c w + 1 else sCnt A c w
def sWorks (A : kFn) : Nat := (A 0 11).toNatClampNeg
def sStand (A : kFn) (c : Nat) : Int32 := sCnt A (nI c) (sWorks A)
def sEnv (A : kFn) (c : Nat) (num : Int32) : Nat → Int32 := fun k => match k with
  | 0 => A 1 c
  | 1 => A 2 c
  | 2 => A 0 9
  | 3 => num
  | 4 => A 3 c
  | _ => nI c
def sClamp (most v : Int32) : Int32 := if 0 < (if v < most then v else most) then (if v < most then v else most) else 0
/-- what a part of a rule says, clamped; V: its parts' worth by the names -/
def sSay (V : Nat → (Nat → Int32) → Int32) (A : kFn) (part c : Nat) (num : Int32) : Int32 := sClamp (kSaid part) (V part (sEnv A c num))
def sRain (V : Nat → (Nat → Int32) → Int32) (A : kFn) : kFn := kfor 12 (fun c B => sPour B c (sSay V B 0 c (sStand B c))) A
def sHeldN (A : kFn) (c : Nat) : Nat → Bool
  | 0 => false
  | w + 1 => (decide (A 7 w = 1) && decide (A 4 w = 5) && decide (A 6 w = nI c)) || sHeldN A c w
def sHeld (A : kFn) (c : Nat) : Bool := sHeldN A c (sWorks A)
def sMin (x y : Int32) : Int32 := if x < y then x else y
def sFlow1 (A : kFn) (c : Nat) : kFn :=
  if 0 < A 1 c + A 3 c - A 1 (c - 1) - A 3 (c - 1) ∧ sHeld A (c - 1) = false then
    sPour (fset A 3 c (A 3 c - sMin (A 3 c) ((A 1 c + A 3 c - A 1 (c - 1) - A 3 (c - 1)) / 2))) (c - 1) (sMin (A 3 c) ((A 1 c + A 3 c - A 1 (c - 1) - A 3 (c - 1)) / 2)) else A
def sRiver (A : kFn) : kFn :=
  if 0 < A 1 0 + A 3 0 - A 0 8 then fset A 3 0 (A 3 0 - sMin (A 3 0) ((A 1 0 + A 3 0 - A 0 8) / 2))
  else if sHeld A 0 = true then A else sPour A 0 (-(A 1 0 + A 3 0 - A 0 8) / 2)
def sFlow (A : kFn) : kFn := sRiver (kfor 11 (fun i B => sFlow1 B (11 - i)) A)
def sWant (A : kFn) (w c : Nat) : Int32 :=
  if A 4 w = 1 then (if A 1 c ≤ A 0 8 then A 5 w else A 3 c / 2 + A 5 w)
  else if A 4 w = 2 then A 5 w + 5
  else if A 4 w = 3 then (if krem (A 0 9) 3 = 2 then 0 else if A 1 c ≤ A 0 8 then A 5 w else A 3 c / 2 + A 5 w)
  else if A 4 w = 4 then 2 * (A 5 w + 5)
  else if A 4 w = 5 then 0 else A 5 w
def sDraw (A : kFn) (w c : Nat) : Int32 := sMin (A 3 c) (sWant A w c)
def sDrawFrom (A : kFn) (w : Nat) (c : Int32) : kFn := if c < 0 then A else if 12 ≤ c then A else fset A 3 c.toNatClampNeg (A 3 c.toNatClampNeg - sDraw A w c.toNatClampNeg)
def sCost (V : Nat → (Nat → Int32) → Int32) (A : kFn) (w : Nat) : Int32 :=
  if A 4 w = 1 then sSay V A 2 (A 6 w).toNatClampNeg (A 5 w) / 2
  else if A 4 w = 2 then 2 * sSay V A 2 (A 6 w).toNatClampNeg (A 5 w)
  else if A 4 w = 3 then sSay V A 2 (A 6 w).toNatClampNeg (A 5 w) / 2 + A 5 w
  else if A 4 w = 4 then 2 * sSay V A 2 (A 6 w).toNatClampNeg (A 5 w) + A 5 w
  else sSay V A 2 (A 6 w).toNatClampNeg (A 5 w)
def sPay (V : Nat → (Nat → Int32) → Int32) (A : kFn) (w : Nat) : kFn := fset A 0 10 (A 0 10 + sCost V A w)
def sDrain1 (V : Nat → (Nat → Int32) → Int32) (w : Nat) (A : kFn) : kFn :=
  if A 7 w = 1 then
    (if A 4 w = 1 ∨ A 4 w = 4 then sPay V (sDrawFrom (sDrawFrom (sDrawFrom A w (A 6 w)) w (A 6 w - 1)) w (A 6 w + 1)) w
     else sPay V (sDrawFrom A w (A 6 w)) w) else A
def sDrain (V : Nat → (Nat → Int32) → Int32) (A : kFn) : kFn := kfor (sWorks A) (sDrain1 V) A
def sLess (V : Nat → (Nat → Int32) → Int32) (A : kFn) (c : Nat) : Int32 := sMin (sMin (A 1 c) (A 2 c)) (sSay V A 1 c (sStand A c))
def sShrink1 (V : Nat → (Nat → Int32) → Int32) (c : Nat) (A : kFn) : kFn :=
  if A 3 c = 0 then fset (fset A 2 c (A 2 c - sLess V A c)) 1 c (A 1 c - sLess V A c) else A
def sShrink (V : Nat → (Nat → Int32) → Int32) (A : kFn) : kFn := kfor 12 (sShrink1 V) A
def sYear (V : Nat → (Nat → Int32) → Int32) (A : kFn) : kFn := fset (sShrink V (sDrain V (sFlow (sRain V A)))) 0 9 ((sShrink V (sDrain V (sFlow (sRain V A)))) 0 9 + 1)
def sDryN (A : kFn) : Nat → Int32
  | 0 => 0
  | c + 1 => if A 3 c = 0 then sDryN A c ||| kshl 1 (nI c) else sDryN A c
def sDry (A : kFn) : Int32 := sDryN A 12
/-- what a fen always is; its rule is one of nt texts -/
def sOk (nt : Nat) (A : kFn) : Prop :=
  (∀ c : Nat, c < 12 → (0 ≤ A 1 c ∧ A 1 c ≤ 99) ∧ (0 ≤ A 2 c ∧ A 2 c ≤ 99) ∧ 0 ≤ A 3 c ∧ A 3 c ≤ 999) ∧ (0 ≤ A 0 8 ∧ A 0 8 ≤ 99) ∧
  (∃ n : Nat, n ≤ 6 ∧ A 0 11 = nI n) ∧ (∃ t : Nat, t < nt ∧ A 0 12 = nI t) ∧
  ∀ w : Nat, w < sWorks A → (0 ≤ A 4 w ∧ A 4 w ≤ 5) ∧ (0 ≤ A 5 w ∧ A 5 w ≤ 9) ∧ (∃ p : Nat, p < 12 ∧ A 6 w = nI p) ∧ (A 7 w = 0 ∨ A 7 w = 1)
theorem sOk.works {nt : Nat} {A : kFn} (h : sOk nt A) : sWorks A ≤ 6 ∧ A 0 11 = nI (sWorks A) := by
  obtain ⟨n, h1, h2⟩ := h.2.2.1
  have e : sWorks A = n := by unfold sWorks; rw [h2]; exact k_cl (by omega)
  rw [e]
  exact ⟨h1, h2⟩
/-! the class's fen: leaves -/
theorem x_pour {b c : Nat} {m : Int32} {σ : kS} {Q : kS → Prop} (hc : c < 12) (h : ∀ σ' : kS, fx b σ' = sPour (fx b σ) c m → xO b σ σ' → Q σ') : wX0_pour b (nI c) m σ Q := by
  have hi : vp_in (nI c) 12 := k_idx hc (by decide)
  refine ⟨hi, hi, fun s1 e1 => ?_⟩
  rw [k_cl (by omega)] at e1
  subst e1
  refine h _ ?_ (xO.set (by omega))
  rw [fx_set (by omega)]
  rfl
theorem x_isCell {c : Int32} {Q : Int32 → Prop} (h1 : (0 ≤ c ∧ c < 12) → Q 1) (h0 : ¬ (0 ≤ c ∧ c < 12) → Q 0) : wX4_isCell c Q := by
  refine ⟨fun q => h0 (fun z => ?_), fun q => ⟨fun q2 => h0 (fun z => ?_), fun q2 => h1 ?_⟩⟩
  · grind
  · grind
  · grind
theorem x_goes {nt b w : Nat} {σ : kS} {Q : Int32 → kS → Prop} (hO : sOk nt (fx b σ)) (hw : w < 6) (h : Q (if w < sWorks (fx b σ) ∧ fx b σ 7 w = 1 then 1 else 0) σ) : wX0_goes b (nI w) σ Q := by
  obtain ⟨h6, hn⟩ := hO.works
  have hn : σ.1 b 11 = nI (sWorks (fx b σ)) := hn
  refine ⟨fun q => absurd q (k_nn (by omega)), fun _ => ⟨fun q => ?_, fun q => ⟨k_idx hw (by decide), fun q2 => ?_, fun q2 => ?_⟩⟩⟩
  · rw [hn] at q
    have : ¬ w < sWorks (fx b σ) := fun z => nI_ge z (by omega) q
    rw [if_neg (fun z => this z.1)] at h
    exact h
  · rw [k_cl (by omega)] at q2
    rw [if_neg (fun z => q2 z.2)] at h
    exact h
  · rw [k_cl (by omega)] at q2
    have : w < sWorks (fx b σ) := by
      rcases Nat.lt_or_ge w (sWorks (fx b σ)) with z | z
      · exact z
      · rw [hn] at q
        exact absurd (nI_le z (by omega)) q
    rw [if_pos ⟨this, q2⟩] at h
    exact h
theorem x_dryCells {b : Nat} {σ : kS} {Q : Int32 → kS → Prop} (h : Q (sDry (fx b σ)) σ) : wX0_dryCells b σ Q := by
  intro P hP
  suffices key : ∀ k c : Nat, c + k = 12 → P (sDryN (fx b σ) c) (nI c) from key 12 0 rfl
  intro k
  induction k with
  | zero =>
    intro c hc
    have : c = 12 := by omega
    subst this
    exact hP _ _ ⟨fun _ => h, fun q => absurd (k_at rfl) q⟩
  | succ k ih =>
    intro c hc
    refine hP _ _ ⟨fun q => absurd q (k_ge (N := 12) (by omega) (by decide) rfl), fun _ => ⟨k_idx (by omega) (by decide), fun q x ex => ?_, fun q x ex y ey => ?_⟩⟩
    · rw [k_cl (by omega)] at q
      have e := ih (c + 1) (by omega)
      rw [show sDryN (fx b σ) (c + 1) = sDryN (fx b σ) c from if_neg q] at e
      rw [ex, k_n1]
      exact e
    · rw [k_cl (by omega)] at q
      have e := ih (c + 1) (by omega)
      rw [show sDryN (fx b σ) (c + 1) = sDryN (fx b σ) c ||| kshl 1 (nI c) from if_pos q] at e
      rw [ey, k_n1, ex]
      exact e
theorem x_draws {nt b w c : Nat} {σ : kS} {Q : Int32 → kS → Prop} (hO : sOk nt (fx b σ)) (hw : w < sWorks (fx b σ)) (hc : c < 12) (h : Q (sDraw (fx b σ) w c) σ) : wX0_draws b (nI w) (nI c) σ Q := by
  obtain ⟨h6, hn⟩ := hO.works
  have hiw : vp_in (nI w) 6 := k_idx (by omega) (by decide)
  have hic : vp_in (nI c) 12 := k_idx hc (by decide)
  have fin : ∀ v : Int32, v = sWant (fx b σ) w c → wX0_draws_131 b Q (nI c) v σ := by
    intro v hv
    refine ⟨hic, ?_⟩
    rw [k_cl (by omega)]
    rw [hv]
    exact h
  have mid : ∀ v : Int32, v = (if fx b σ 1 c ≤ fx b σ 0 8 then fx b σ 5 w else fx b σ 3 c / 2 + fx b σ 5 w) → wX0_draws_34 b Q (nI w) (nI c) (fx b σ 5 w) v σ := by
    intro v hv
    unfold wX0_draws_34 wX0_draws_107
    rw [k_cl (by omega)]
    refine ⟨hiw, fun q => fin _ ?_, fun q x5 e5 => fin _ ?_, fun q => ⟨fun q2 => fin _ ?_, fun q2 => fin _ ?_⟩, fun q x9 e9 => fin _ ?_, fun q => fin _ ?_, fun q1 q2 q3 q4 q5 => fin _ ?_⟩
    · have q : fx b σ 4 w = 1 := q
      unfold sWant
      rw [if_pos q]
      exact hv
    · have q : fx b σ 4 w = 2 := q
      unfold sWant
      rw [q, if_neg (by decide), if_pos rfl]
      exact e5
    · have q : fx b σ 4 w = 3 := q
      have q2 : ¬ krem (fx b σ 0 9) 3 = 2 := q2
      unfold sWant
      rw [q, if_neg (by decide), if_neg (by decide), if_pos rfl, if_neg q2]
      exact hv
    · have q : fx b σ 4 w = 3 := q
      have q2 : krem (fx b σ 0 9) 3 = 2 := q2
      unfold sWant
      rw [q, if_neg (by decide), if_neg (by decide), if_pos rfl, if_pos q2]
    · have q : fx b σ 4 w = 4 := q
      unfold sWant
      rw [q, if_neg (by decide), if_neg (by decide), if_neg (by decide), if_pos rfl]
      exact e9
    · have q : fx b σ 4 w = 5 := q
      unfold sWant
      rw [q, if_neg (by decide), if_neg (by decide), if_neg (by decide), if_neg (by decide), if_pos rfl]
    · have q1 : ¬ fx b σ 4 w = 1 := q1
      have q2 : ¬ fx b σ 4 w = 2 := q2
      have q3 : ¬ fx b σ 4 w = 3 := q3
      have q4 : ¬ fx b σ 4 w = 4 := q4
      have q5 : ¬ fx b σ 4 w = 5 := q5
      unfold sWant
      rw [if_neg q1, if_neg q2, if_neg q3, if_neg q4, if_neg q5]
  refine ⟨hiw, fun x1 e1 => ⟨hic, fun q => ?_, fun q => ⟨hic, ?_⟩⟩⟩
  · rw [k_cl (by omega)] at e1
    rw [k_cl (by omega)] at q
    subst e1
    refine mid _ ?_
    exact (if_pos q).symm
  · rw [k_cl (by omega)] at e1
    rw [k_cl (by omega)] at q
    rw [k_cl (by omega)]
    subst e1
    refine mid _ ?_
    exact (if_neg q).symm
