/-! pure: a text's parts, read: where they end or fail, their code, what they say -/
abbrev kVal : Type := (Nat → Int32) → Int32
abbrev pRs : Type := Nat × Option (List Int32 × kVal)
def pB (r : pRs) (f : Nat → List Int32 × kVal → pRs) : pRs := match r.2 with
  | none => r
  | some c => f r.1 c
theorem pB_none {r : pRs} {f : Nat → List Int32 × kVal → pRs} (h : r.2 = none) : pB r f = r := by
  unfold pB
  rw [h]
theorem pB_some {r : pRs} {f : Nat → List Int32 × kVal → pRs} {c : List Int32 × kVal} (h : r.2 = some c) : pB r f = f r.1 c := by
  unfold pB
  rw [h]
def pBad (T : Nat → Nat) (N i : Nat) : pRs := (lP T N i, none)
def pJn (o : Int32) (c d : List Int32 × kVal) : List Int32 × kVal := (c.1 ++ (d.1 ++ [o]), fun env => sJoin o (c.2 env) (d.2 env))
def pTn (o : Int32) (d : List Int32 × kVal) : List Int32 × kVal := (d.1 ++ [o], fun env => sTurn o (d.2 env))
def pLoop (T : Nat → Nat) (N : Nat) (op : Nat → Option Int32) (sub : Nat → pRs) : Nat → Nat → List Int32 × kVal → pRs
  | 0, i, c => (i, some c)
  | r + 1, i, c => match op (lC T N i) with
    | none => (i, some c)
    | some o => pB (sub (lE T N i)) (fun j d => pLoop T N op sub r j (pJn o c d))
def opT (c : Nat) : Option Int32 := if c = 42 then some (-15) else none
def opS (c : Nat) : Option Int32 := if c = 43 then some (-13) else if c = 45 then some (-14) else none
def opN (c : Nat) : Option Int32 := if c = 60 then some (-11) else if c = 61 then some (-12) else none
def opA (c : Nat) : Option Int32 := if c = 260 then some (-10) else none
def opO (c : Nat) : Option Int32 := if c = 259 then some (-9) else none
def kNm (c : Nat) : Int32 := (-1 : Int32) - (nI c - (262 : Int32))
def pOne (T : Nat → Nat) (N : Nat) (may : Bool) (sub : Nat → Nat → pRs) (i : Nat) : pRs :=
  if lC T N i = 2 then (lE T N i, some ([nI (lA T N i)], fun _ => nI (lA T N i)))
  else if 262 ≤ lC T N i then (lE T N i, some ([kNm (lC T N i)], fun env => sName env (kNm (lC T N i))))
  else if lC T N i = 45 ∧ may = true then pB (sub 5 (lE T N i)) (fun j d => (j, some (pTn (-8) d)))
  else if lC T N i = 40 ∧ may = true then pB (sub 0 (lE T N i)) (fun j d => if lC T N j = 41 then (lE T N j, some d) else pBad T N j)
  else pBad T N i
def pTerm (T : Nat → Nat) (N : Nat) (one : Nat → pRs) (i : Nat) : pRs := pB (one i) (pLoop T N opT one 160)
def pSum (T : Nat → Nat) (N : Nat) (term : Nat → pRs) (i : Nat) : pRs := pB (term i) (pLoop T N opS term 160)
def pCmp (T : Nat → Nat) (N : Nat) (sum : Nat → pRs) (i : Nat) : pRs := pB (sum i) (fun j c => match opN (lC T N j) with
  | none => (j, some c)
  | some o => pB (sum (lE T N j)) (fun k d => (k, some (pJn o c d))))
def pNot (T : Nat → Nat) (N : Nat) (may : Bool) (sub : Nat → Nat → pRs) (sum : Nat → pRs) (i : Nat) : pRs :=
  if lC T N i = 261 ∧ may = true then pB (sub 2 (lE T N i)) (fun j d => (j, some (pTn (-7) d))) else pCmp T N sum i
def pBoth (T : Nat → Nat) (N : Nat) (no : Nat → pRs) (i : Nat) : pRs := pB (no i) (pLoop T N opA no 160)
def pEither (T : Nat → Nat) (N : Nat) (both : Nat → pRs) (i : Nat) : pRs := pB (both i) (pLoop T N opO both 160)
def pSt (T : Nat → Nat) (N : Nat) (may : Bool) (sub : Nat → Nat → pRs) (lv : Nat) : Nat → pRs := match lv with
  | 0 => pEither T N (pBoth T N (pNot T N may sub (pSum T N (pTerm T N (pOne T N may sub)))))
  | 1 => pBoth T N (pNot T N may sub (pSum T N (pTerm T N (pOne T N may sub))))
  | 2 => pNot T N may sub (pSum T N (pTerm T N (pOne T N may sub)))
  | 3 => pSum T N (pTerm T N (pOne T N may sub))
  | 4 => pTerm T N (pOne T N may sub)
  | _ => pOne T N may sub
/-- k more may be opened; levels 0 either .. 5 one -/
def pAll (T : Nat → Nat) (N : Nat) : Nat → Nat → Nat → pRs
  | 0 => pSt T N false (fun _ i => pBad T N i)
  | k + 1 => pSt T N true (pAll T N k)
/-- how far a result lies -/
def pFar (N i : Nat) (r : pRs) : Prop := r.1 ≤ N ∧ ∀ c : List Int32 × kVal, r.2 = some c → i ≤ r.1 ∧ c.1.length ≤ r.1 - i
theorem pFar_bad {T : Nat → Nat} {N i j : Nat} (h : j ≤ N) : pFar N i (pBad T N j) := ⟨(lP_in h).2, fun c e => by cases e⟩
theorem pFar_B {N i : Nat} {r : pRs} {f : Nat → List Int32 × kVal → pRs} (hr : pFar N i r) (hf : ∀ c : List Int32 × kVal, r.2 = some c → pFar N i (f r.1 c)) : pFar N i (pB r f) := by
  cases h : r.2 with
  | none =>
    rw [pB_none h]
    exact hr
  | some c =>
    rw [pB_some h]
    exact hf c h
theorem pFar_mono {N i j : Nat} {r : pRs} (h : pFar N j r) (hij : i ≤ j) : pFar N i r := ⟨h.1, fun c e => by have := h.2 c e; omega⟩
theorem pJn_len {o : Int32} {c d : List Int32 × kVal} : (pJn o c d).1.length = c.1.length + d.1.length + 1 := by
  show (c.1 ++ (d.1 ++ [o])).length = _
  rw [List.length_append, List.length_append]
  simp
  omega
theorem pTn_len {o : Int32} {d : List Int32 × kVal} : (pTn o d).1.length = d.1.length + 1 := by
  show (d.1 ++ [o]).length = _
  rw [List.length_append]
  rfl
theorem pFar_loop {T : Nat → Nat} {N i0 : Nat} {op : Nat → Option Int32} {sub : Nat → pRs} (h0 : op 0 = none) (hs : ∀ i : Nat, i ≤ N → pFar N i (sub i)) : ∀ (r i : Nat) (c : List Int32 × kVal), i ≤ N → i0 ≤ i → c.1.length ≤ i - i0 → pFar N i0 (pLoop T N op sub r i c) := by
  intro r
  induction r with
  | zero =>
    intro i c hi h1 h2
    exact ⟨hi, fun c' e => by cases e; exact ⟨h1, h2⟩⟩
  | succ r ih =>
    intro i c hi h1 h2
    show pFar N i0 (match op (lC T N i) with | none => (i, some c) | some o => pB (sub (lE T N i)) (fun j d => pLoop T N op sub r j (pJn o c d)))
    cases ho : op (lC T N i) with
    | none => exact ⟨hi, fun c' e => by cases e; exact ⟨h1, h2⟩⟩
    | some o =>
      have hne : lC T N i ≠ 0 := fun z => by
        rw [z, h0] at ho
        cases ho
      obtain ⟨e1, e2, e3⟩ := lE_in (T := T) hi
      have e3 := e3 hne
      have hsub := hs (lE T N i) e2
      refine pFar_B (pFar_mono hsub (by omega)) (fun d hd => ?_)
      obtain ⟨k1, k2⟩ := hsub.2 d hd
      refine ih _ _ hsub.1 (by omega) ?_
      rw [pJn_len]
      omega
theorem pFar_st {T : Nat → Nat} {N : Nat} {may : Bool} {sub : Nat → Nat → pRs} (hs : may = true → ∀ lv i : Nat, i ≤ N → pFar N i (sub lv i)) : ∀ lv i : Nat, i ≤ N → pFar N i (pSt T N may sub lv i) := by
  have one : ∀ i : Nat, i ≤ N → pFar N i (pOne T N may sub i) := by
    intro i hi
    obtain ⟨e1, e2, e3⟩ := lE_in (T := T) hi
    unfold pOne
    split
    · rename_i h
      have e3 := e3 (by omega)
      exact ⟨e2, fun c e => by cases e; exact ⟨by omega, by show 1 ≤ _; omega⟩⟩
    · split
      · rename_i h
        have e3 := e3 (by omega)
        exact ⟨e2, fun c e => by cases e; exact ⟨by omega, by show 1 ≤ _; omega⟩⟩
      · split
        · rename_i h
          have e3 := e3 (by omega)
          have hsub := hs h.2 5 _ e2
          refine pFar_B (pFar_mono hsub (by omega)) (fun d hd => ?_)
          obtain ⟨k1, k2⟩ := hsub.2 d hd
          refine ⟨hsub.1, fun c e => ?_⟩
          cases e
          refine ⟨by show i ≤ (sub 5 (lE T N i)).1; omega, ?_⟩
          rw [pTn_len]
          show d.1.length + 1 ≤ (sub 5 (lE T N i)).1 - i
          omega
        · split
          · rename_i h
            have e3 := e3 (by omega)
            have hsub := hs h.2 0 _ e2
            refine pFar_B (pFar_mono hsub (by omega)) (fun d hd => ?_)
            obtain ⟨k1, k2⟩ := hsub.2 d hd
            obtain ⟨f1, f2, f3⟩ := lE_in (T := T) hsub.1
            split
            · refine ⟨f2, fun c e => ?_⟩
              cases e
              refine ⟨?_, ?_⟩
              · show i ≤ lE T N (sub 0 (lE T N i)).1
                omega
              · show d.1.length ≤ lE T N (sub 0 (lE T N i)).1 - i
                omega
            · exact pFar_bad hsub.1
          · exact pFar_bad hi
  have term : ∀ i : Nat, i ≤ N → pFar N i (pTerm T N (pOne T N may sub) i) := fun i hi => pFar_B (one i hi) (fun c hc => pFar_loop rfl one 160 _ c (one i hi).1 ((one i hi).2 c hc).1 ((one i hi).2 c hc).2)
  have sum : ∀ i : Nat, i ≤ N → pFar N i (pSum T N (pTerm T N (pOne T N may sub)) i) := fun i hi => pFar_B (term i hi) (fun c hc => pFar_loop rfl term 160 _ c (term i hi).1 ((term i hi).2 c hc).1 ((term i hi).2 c hc).2)
  have no : ∀ i : Nat, i ≤ N → pFar N i (pNot T N may sub (pSum T N (pTerm T N (pOne T N may sub))) i) := by
    intro i hi
    unfold pNot
    split
    · rename_i h
      obtain ⟨e1, e2, e3⟩ := lE_in (T := T) hi
      have e3 := e3 (by omega)
      have hsub := hs h.2 2 _ e2
      refine pFar_B (pFar_mono hsub (by omega)) (fun d hd => ?_)
      obtain ⟨k1, k2⟩ := hsub.2 d hd
      refine ⟨hsub.1, fun c e => ?_⟩
      cases e
      refine ⟨by show i ≤ (sub 2 (lE T N i)).1; omega, ?_⟩
      rw [pTn_len]
      show d.1.length + 1 ≤ (sub 2 (lE T N i)).1 - i
      omega
    · refine pFar_B (sum i hi) (fun c hc => ?_)
      obtain ⟨k1, k2⟩ := (sum i hi).2 c hc
      have k3 := (sum i hi).1
      cases ho : opN (lC T N (pSum T N (pTerm T N (pOne T N may sub)) i).1) with
      | none => exact ⟨k3, fun c' e => by cases e; exact ⟨k1, k2⟩⟩
      | some o =>
        have hne : lC T N (pSum T N (pTerm T N (pOne T N may sub)) i).1 ≠ 0 := fun z => by
          rw [z] at ho
          cases ho
        obtain ⟨e1, e2, e3⟩ := lE_in (T := T) k3
        have e3 := e3 hne
        have hs2 := sum _ e2
        refine pFar_B (pFar_mono hs2 (by omega)) (fun d hd => ?_)
        obtain ⟨k4, k5⟩ := hs2.2 d hd
        refine ⟨hs2.1, fun c' e => ?_⟩
        cases e
        generalize hj : (pSum T N (pTerm T N (pOne T N may sub)) i).1 = j at *
        generalize hk : (pSum T N (pTerm T N (pOne T N may sub)) (lE T N j)).1 = k at *
        refine ⟨by show i ≤ k; omega, ?_⟩
        rw [pJn_len]
        show c.1.length + d.1.length + 1 ≤ k - i
        omega
  have both : ∀ i : Nat, i ≤ N → pFar N i (pBoth T N (pNot T N may sub (pSum T N (pTerm T N (pOne T N may sub)))) i) := fun i hi => pFar_B (no i hi) (fun c hc => pFar_loop rfl no 160 _ c (no i hi).1 ((no i hi).2 c hc).1 ((no i hi).2 c hc).2)
  intro lv i hi
  match lv with
  | 0 => exact pFar_B (both i hi) (fun c hc => pFar_loop rfl both 160 _ c (both i hi).1 ((both i hi).2 c hc).1 ((both i hi).2 c hc).2)
  | 1 => exact both i hi
  | 2 => exact no i hi
  | 3 => exact sum i hi
  | 4 => exact term i hi
  | (lv + 5) => exact one i hi
theorem pFar_all {T : Nat → Nat} {N : Nat} : ∀ k lv i : Nat, i ≤ N → pFar N i (pAll T N k lv i) := by
  intro k
  induction k with
  | zero => exact pFar_st (fun z => absurd z (by decide))
  | succ k ih => exact pFar_st (fun _ => ih)
/-! what code lays on a stack -/
def evL (env : Nat → Int32) : List Int32 → kStk → kStk
  | [], s => s
  | o :: l, s => evL env l (evStep env o s)
theorem evL_app {env : Nat → Int32} {r : List Int32} : ∀ (l : List Int32) (s : kStk), evL env (l ++ r) s = evL env r (evL env l s) := by
  intro l
  induction l with
  | nil => exact fun s => rfl
  | cons o l ih => exact fun s => ih _
/-- code l lays v on a stack on which h have room -/
def evP (env : Nat → Int32) (h : Nat) (l : List Int32) (v : Int32) : Prop := ∀ s : kStk, s.1 + h ≤ 31 → (evL env l s).1 = s.1 + 1 ∧ (evL env l s).2 s.1 = v ∧ ∀ j : Nat, j < s.1 → (evL env l s).2 j = s.2 j
theorem evP_mono {env : Nat → Int32} {h h' : Nat} {l : List Int32} {v : Int32} (e : evP env h l v) (hh : h ≤ h') : evP env h' l v := fun s hs => e s (by omega)
theorem evP_one {env : Nat → Int32} {o : Int32} (ho : ¬ o ≤ -7) : evP env 1 [o] (if o < 0 then sName env o else o) := by
  intro s hs
  have e : evL env [o] s = (s.1 + 1, upd s.2 s.1 (if o < 0 then sName env o else o)) := by
    show evStep env o s = _
    unfold evStep
    rw [if_neg ho]
    exact if_neg (by omega)
  rw [e]
  exact ⟨rfl, upd_at, fun j hj => upd_ne (by omega)⟩
theorem evP_turn {env : Nat → Int32} {h : Nat} {o v : Int32} {l : List Int32} (h1 : o ≤ -7) (h2 : ¬ o < -8) (e : evP env h l v) : evP env h (l ++ [o]) (sTurn o v) := by
  intro s hs
  obtain ⟨a, b, c⟩ := e s hs
  rw [evL_app]
  generalize evL env l s = s2 at a b c
  obtain ⟨t, f⟩ := s2
  have a : t = s.1 + 1 := a
  subst a
  have b : f s.1 = v := b
  have c : ∀ j : Nat, j < s.1 → f j = s.2 j := c
  have e2 : evL env [o] (s.1 + 1, f) = (s.1 + 1, upd f s.1 (sTurn o (f s.1))) := by
    show evStep env o (s.1 + 1, f) = _
    unfold evStep
    rw [if_pos h1, if_neg h2]
    exact if_neg (by show ¬ s.1 + 1 = 0; omega)
  rw [e2, b]
  exact ⟨rfl, upd_at, fun j hj => (upd_ne (by omega)).trans (c j hj)⟩
theorem evP_join {env : Nat → Int32} {h k : Nat} {o v w : Int32} {l r : List Int32} (h1 : o ≤ -7) (h2 : o < -8) (e : evP env h l v) (e' : evP env k r w) (hk : k + 1 ≤ h) : evP env h (l ++ (r ++ [o])) (sJoin o v w) := by
  intro s hs
  obtain ⟨a, b, c⟩ := e s hs
  rw [evL_app, evL_app]
  generalize evL env l s = s2 at a b c
  obtain ⟨t, f⟩ := s2
  have a : t = s.1 + 1 := a
  subst a
  have b : f s.1 = v := b
  have c : ∀ j : Nat, j < s.1 → f j = s.2 j := c
  obtain ⟨a2, b2, c2⟩ := e' (s.1 + 1, f) (by show s.1 + 1 + k ≤ 31; omega)
  generalize evL env r (s.1 + 1, f) = s3 at a2 b2 c2
  obtain ⟨t, g⟩ := s3
  have a2 : t = s.1 + 1 + 1 := a2
  subst a2
  have b2 : g (s.1 + 1) = w := b2
  have c2 : ∀ j : Nat, j < s.1 + 1 → g j = f j := c2
  have e3 : evL env [o] (s.1 + 1 + 1, g) = (s.1 + 1, upd g s.1 (sJoin o (g s.1) (g (s.1 + 1)))) := by
    show evStep env o (s.1 + 1 + 1, g) = _
    unfold evStep
    rw [if_pos h1, if_pos h2]
    exact if_neg (by show ¬ s.1 + 1 + 1 ≤ 1; omega)
  rw [e3, b2, c2 s.1 (by omega), b]
  exact ⟨rfl, upd_at, fun j hj => (upd_ne (by omega)).trans ((c2 j (by omega)).trans (c j hj))⟩
def pSay (h : Nat) (r : pRs) : Prop := ∀ c : List Int32 × kVal, r.2 = some c → ∀ env : Nat → Int32, evP env h c.1 (c.2 env)
theorem pSay_B {h : Nat} {r : pRs} {f : Nat → List Int32 × kVal → pRs} (hf : ∀ c : List Int32 × kVal, r.2 = some c → pSay h (f r.1 c)) : pSay h (pB r f) := by
  cases hr : r.2 with
  | none =>
    rw [pB_none hr]
    exact fun c e => by rw [hr] at e; cases e
  | some c =>
    rw [pB_some hr]
    exact hf c hr
theorem pSay_bad {T : Nat → Nat} {h N i : Nat} : pSay h (pBad T N i) := fun c e => by cases e
theorem pSay_loop {T : Nat → Nat} {N h : Nat} {op : Nat → Option Int32} {sub : Nat → pRs} (ho : ∀ c : Nat, ∀ o : Int32, op c = some o → o ≤ -7 ∧ o < -8) (hs : ∀ i : Nat, pSay h (sub i)) : ∀ (r i : Nat) (c : List Int32 × kVal), (∀ env : Nat → Int32, evP env (h + 1) c.1 (c.2 env)) → pSay (h + 1) (pLoop T N op sub r i c) := by
  intro r
  induction r with
  | zero =>
    intro i c hc c' e
    cases e
    exact hc
  | succ r ih =>
    intro i c hc
    show pSay (h + 1) (match op (lC T N i) with | none => (i, some c) | some o => pB (sub (lE T N i)) (fun j d => pLoop T N op sub r j (pJn o c d)))
    cases hop : op (lC T N i) with
    | none =>
      intro c' e
      cases e
      exact hc
    | some o =>
      obtain ⟨o1, o2⟩ := ho _ _ hop
      refine pSay_B (fun d hd => ih _ _ (fun env => ?_))
      exact evP_join o1 o2 (hc env) (hs _ d hd env) (Nat.le_refl _)
theorem pSay_st {T : Nat → Nat} {N h : Nat} {may : Bool} {sub : Nat → Nat → pRs} (hs : may = true → 6 ≤ h ∧ ∀ lv i : Nat, lv ≤ 5 → pSay (h - lv) (sub lv i)) (hnum : ∀ i : Nat, lC T N i = 2 → lA T N i < 100000) (h1 : 1 ≤ h) : ∀ lv i : Nat, lv ≤ 5 → pSay (h + 5 - lv) (pSt T N may sub lv i) := by
  have one : ∀ i : Nat, pSay h (pOne T N may sub i) := by
    intro i
    unfold pOne
    split
    · rename_i hc
      intro c e env
      cases e
      have hn := hnum i hc
      have e1 := evP_one (env := env) (o := nI (lA T N i)) (fun z => absurd (Int32.le_trans (nI_pos' (by omega)) z) (by decide))
      rw [if_neg (nI_pos (by omega))] at e1
      exact evP_mono e1 h1
    · split
      · rename_i hc
        have hlt : lC T N i < 268 := lC_in
        have hcase : lC T N i = 262 ∨ lC T N i = 263 ∨ lC T N i = 264 ∨ lC T N i = 265 ∨ lC T N i = 266 ∨ lC T N i = 267 := by omega
        have hk : ¬ kNm (lC T N i) ≤ -7 ∧ kNm (lC T N i) < 0 := by
          rcases hcase with z | z | z | z | z | z <;> rw [z] <;> decide
        generalize kNm (lC T N i) = o at hk
        intro c e env
        cases e
        have e1 := evP_one (env := env) hk.1
        rw [if_pos hk.2] at e1
        exact evP_mono e1 h1
      · split
        · rename_i hc
          obtain ⟨h6, hsub⟩ := hs hc.2
          refine pSay_B (fun d hd => ?_)
          intro c e env
          cases e
          exact evP_mono (evP_turn (by decide) (by decide) (hsub 5 _ (by decide) d hd env)) (by omega)
        · split
          · rename_i hc
            obtain ⟨h6, hsub⟩ := hs hc.2
            refine pSay_B (fun d hd => ?_)
            split
            · intro c e env
              cases e
              exact hsub 0 _ (by decide) d hd env
            · exact pSay_bad
          · exact pSay_bad
  have term : ∀ i : Nat, pSay (h + 1) (pTerm T N (pOne T N may sub) i) := fun i => pSay_B (fun c hc => pSay_loop (by
    intro c o e
    unfold opT at e
    split at e
    · cases e; decide
    · cases e) one 160 _ c (fun env => evP_mono (one i c hc env) (by omega)))
  have sum : ∀ i : Nat, pSay (h + 2) (pSum T N (pTerm T N (pOne T N may sub)) i) := fun i => pSay_B (fun c hc => pSay_loop (by
    intro c o e
    unfold opS at e
    split at e
    · cases e; decide
    · split at e
      · cases e; decide
      · cases e) term 160 _ c (fun env => evP_mono (term i c hc env) (by omega)))
  have no : ∀ i : Nat, pSay (h + 3) (pNot T N may sub (pSum T N (pTerm T N (pOne T N may sub))) i) := by
    intro i
    unfold pNot
    split
    · rename_i hc
      obtain ⟨h6, hsub⟩ := hs hc.2
      refine pSay_B (fun d hd => ?_)
      intro c e env
      cases e
      exact evP_mono (evP_turn (by decide) (by decide) (hsub 2 _ (by decide) d hd env)) (by omega)
    · refine pSay_B (fun c hc => ?_)
      cases ho : opN (lC T N (pSum T N (pTerm T N (pOne T N may sub)) i).1) with
      | none =>
        intro c' e env
        cases e
        exact evP_mono (sum i c hc env) (by omega)
      | some o =>
        have ho2 : o ≤ -7 ∧ o < -8 := by
          unfold opN at ho
          split at ho
          · cases ho; decide
          · split at ho
            · cases ho; decide
            · cases ho
        refine pSay_B (fun d hd => ?_)
        intro c' e env
        cases e
        exact evP_join ho2.1 ho2.2 (evP_mono (sum i c hc env) (by omega)) (sum _ d hd env) (Nat.le_refl _)
  have both : ∀ i : Nat, pSay (h + 4) (pBoth T N (pNot T N may sub (pSum T N (pTerm T N (pOne T N may sub)))) i) := fun i => pSay_B (fun c hc => pSay_loop (by
    intro c o e
    unfold opA at e
    split at e
    · cases e; decide
    · cases e) no 160 _ c (fun env => evP_mono (no i c hc env) (by omega)))
  intro lv i hlv
  match lv, hlv with
  | 0, _ => exact pSay_B (fun c hc => pSay_loop (by
    intro c o e
    unfold opO at e
    split at e
    · cases e; decide
    · cases e) both 160 _ c (fun env => evP_mono (both i c hc env) (by omega)))
  | 1, _ => exact both i
  | 2, _ => exact no i
  | 3, _ => exact sum i
  | 4, _ => exact term i
  | 5, _ => exact one i
  | (lv + 6), z => exact absurd z (by omega)
theorem lNum_in {T : Nat → Nat} {p : Nat} : ∀ n : Nat, (∀ j : Nat, p ≤ j → j < p + n → lDi (T j) = true) → lNum T p n < 10 ^ n := by
  intro n
  induction n with
  | zero => exact fun _ => Nat.zero_lt_one
  | succ n ih =>
    intro h
    have i1 := ih (fun j h1 h2 => h j h1 (by omega))
    have d := h (p + n) (by omega) (by omega)
    simp only [lDi, Bool.and_eq_true, decide_eq_true_eq] at d
    show lNum T p n * 10 + T (p + n) - 48 < 10 ^ (n + 1)
    have e : 10 ^ (n + 1) = 10 ^ n * 10 := Nat.pow_succ 10 n
    omega
theorem lA_in {T : Nat → Nat} {N i : Nat} (hi : i ≤ N) (h : lC T N i = 2) : lA T N i < 100000 := by
  have hp := (lP_in (T := T) hi).2
  unfold lA
  unfold lC at h
  generalize lP T N i = p at h hp ⊢
  unfold lCp at h
  split at h
  · cases h
  · split at h
    · rcases wTok_in (T := T) (p := p) (e := lRun lLe T N p) 12 with z | ⟨w, z1, z2, z3⟩
      · omega
      · omega
    · split at h
      · split at h
        · rename_i h4
          obtain ⟨r1, r2, r3⟩ := lRun_in (p := lDi) (T := T) (N := N) (N - p) p (by omega)
          have := lNum_in (T := T) (p := p) (lRun lDi T N p - p) (fun j h1 h2 => r3 j h1 (by omega))
          have h5 : 10 ^ (lRun lDi T N p - p) ≤ 10 ^ 4 := Nat.pow_le_pow_right (by decide) h4
          omega
        · cases h
      · split at h
        · rename_i h3
          have := lSi_in h3
          omega
        · cases h
theorem pSay_all {T : Nat → Nat} {N : Nat} (hnum : ∀ i : Nat, lC T N i = 2 → lA T N i < 100000) : ∀ k lv i : Nat, lv ≤ 5 → pSay (6 + 5 * k - lv) (pAll T N k lv i) := by
  intro k
  induction k with
  | zero => exact pSay_st (h := 1) (fun z => absurd z (by decide)) hnum (by decide)
  | succ k ih =>
    intro lv i hlv
    have e := pSay_st (h := 6 + 5 * k) (may := true) (sub := pAll T N k) (fun _ => ⟨by omega, ih⟩) hnum (by omega) lv i hlv
    rw [show 6 + 5 * (k + 1) - lv = 6 + 5 * k + 5 - lv by omega]
    exact e
theorem lA_all {T : Nat → Nat} {N : Nat} (i : Nat) (h : lC T N i = 2) : lA T N i < 100000 := by
  rcases Nat.lt_or_ge N i with z | z
  · have e : lP T N i = i := lRun_0 (by omega)
    unfold lC at h
    rw [e] at h
    have e2 : lCp T N i = 0 := if_pos (by omega)
    rw [e2] at h
    cases h
  · exact lA_in z h
