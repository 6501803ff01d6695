/-! pure: what a text's code says -/
def sTurn (op a : Int32) : Int32 := if op = -8 then -a else if a = 0 then 1 else 0
def sJoin (op a b : Int32) : Int32 :=
  if op = -14 then a - b else if op = -13 then a + b else if op = -12 then (if a = b then 1 else 0) else if op = -11 then (if b ≤ a then 0 else 1)
  else if op = -10 then (if a = 0 then 0 else if b = 0 then 0 else 1) else if op = -9 then (if a = 0 then (if b = 0 then 0 else 1) else 1) else a * b
def sName (env : Nat → Int32) (op : Int32) : Int32 :=
  if op = -6 then env 5 else if op = -5 then env 4 else if op = -3 then env 2 else if op = -2 then env 1 else if op = -1 then env 0 else env 3
/-- a stack: how many lie on it, what lies at each place from the bottom -/
abbrev kStk : Type := Nat × (Nat → Int32)
def evStep (env : Nat → Int32) (op : Int32) (s : kStk) : kStk :=
  if op ≤ -7 then
    (if op < -8 then (if s.1 ≤ 1 then s else (s.1 - 1, upd s.2 (s.1 - 2) (sJoin op (s.2 (s.1 - 2)) (s.2 (s.1 - 1)))))
     else (if s.1 = 0 then s else (s.1, upd s.2 (s.1 - 1) (sTurn op (s.2 (s.1 - 1))))))
  else (if 31 ≤ s.1 then s else (s.1 + 1, upd s.2 s.1 (if op < 0 then sName env op else op)))
def evN (env : Nat → Int32) (f : Nat → Int32) : Nat → kStk
  | 0 => (0, fun _ => 0)
  | n + 1 => evStep env (f n) (evN env f n)
def evV (env : Nat → Int32) (e : Nat × (Nat → Int32)) : Int32 := if (evN env e.2 e.1).1 = 0 then 0 else (evN env e.2 e.1).2 0
theorem ev_top {env f : Nat → Int32} : ∀ n : Nat, (evN env f n).1 ≤ 31 := by
  intro n
  induction n with
  | zero => exact Nat.zero_le _
  | succ n ih =>
    show (evStep env (f n) (evN env f n)).1 ≤ 31
    unfold evStep
    split
    · split
      · split
        · exact ih
        · show (evN env f n).1 - 1 ≤ 31
          omega
      · split
        · exact ih
        · exact ih
    · split
      · exact ih
      · show (evN env f n).1 + 1 ≤ 31
        omega
def xRow (T : kTxt) (part : Nat) : kRow := if part = 0 then T.2.1 else if part = 1 then T.2.2.1 else T.2.2.2
/-- what the parts of a text say -/
def xV (T : kTxt) : Nat → (Nat → Int32) → Int32 := fun part env => evV env (xRow T part).2
theorem x_turned {op a : Int32} {Q : Int32 → Prop} (h : Q (sTurn op a)) : wX3_turned op a Q := by
  unfold sTurn at h
  refine ⟨fun q => ⟨fun q2 => ?_, fun q2 => ?_⟩, fun q => ?_⟩
  · rw [if_neg q, if_neg q2] at h
    exact h
  · rw [if_neg q, if_pos q2] at h
    exact h
  · rw [if_pos q] at h
    exact h
theorem x_joined {op a b : Int32} {Q : Int32 → Prop} (h : Q (sJoin op a b)) : wX3_joined op a b Q := by
  unfold sJoin at h
  refine ⟨fun q => ?_, fun q => ?_, fun q => ⟨fun q2 => ?_, fun q2 => ?_⟩, fun q => ⟨fun q2 => ?_, fun q2 => ?_⟩, fun q => ⟨fun q2 => ?_, fun q2 => ⟨fun q3 => ?_, fun q3 => ?_⟩⟩, fun q => ⟨fun q2 => ?_, fun q2 => ⟨fun q3 => ?_, fun q3 => ?_⟩⟩, fun q1 q2 q3 q4 q5 q6 => ?_⟩
  · rw [if_pos q] at h
    exact h
  · rw [q, if_neg (by decide), if_pos rfl] at h
    exact h
  · rw [q, if_neg (by decide), if_neg (by decide), if_pos rfl, if_neg q2] at h
    exact h
  · rw [q, if_neg (by decide), if_neg (by decide), if_pos rfl, if_pos q2] at h
    exact h
  · rw [q, if_neg (by decide), if_neg (by decide), if_neg (by decide), if_pos rfl, if_pos q2] at h
    exact h
  · rw [q, if_neg (by decide), if_neg (by decide), if_neg (by decide), if_pos rfl, if_neg q2] at h
    exact h
  · rw [q, if_neg (by decide), if_neg (by decide), if_neg (by decide), if_neg (by decide), if_pos rfl, if_pos q2] at h
    exact h
  · rw [q, if_neg (by decide), if_neg (by decide), if_neg (by decide), if_neg (by decide), if_pos rfl, if_neg q2, if_pos q3] at h
    exact h
  · rw [q, if_neg (by decide), if_neg (by decide), if_neg (by decide), if_neg (by decide), if_pos rfl, if_neg q2, if_neg q3] at h
    exact h
  · rw [q, if_neg (by decide), if_neg (by decide), if_neg (by decide), if_neg (by decide), if_neg (by decide), if_pos rfl, if_neg q2] at h
    exact h
  · rw [q, if_neg (by decide), if_neg (by decide), if_neg (by decide), if_neg (by decide), if_neg (by decide), if_pos rfl, if_pos q2, if_pos q3] at h
    exact h
  · rw [q, if_neg (by decide), if_neg (by decide), if_neg (by decide), if_neg (by decide), if_neg (by decide), if_pos rfl, if_pos q2, if_neg q3] at h
    exact h
  · rw [if_neg q1, if_neg q2, if_neg q3, if_neg q4, if_neg q5, if_neg q6] at h
    exact h
/-- which number a text's 'number' is: of a work, or how many stand there -/
def sNum (A : kFn) (c : Nat) (l4 num : Int32) : Prop := (l4 = -1 ∧ num = sStand A c) ∨ ∃ w : Nat, w < 6 ∧ l4 = nI w ∧ num = A 5 w
theorem x_named {nt b c : Nat} {op l4 num : Int32} {σ : kS} {Q : Int32 → kS → Prop} (hO : sOk nt (fx b σ)) (hc : c < 12) (hn : sNum (fx b σ) c l4 num) (h : Q (sName (sEnv (fx b σ) c num) op) σ) : wX0_named b op (nI c) l4 σ Q := by
  obtain ⟨h6, hw⟩ := hO.works
  have hw : σ.1 b 11 = nI (sWorks (fx b σ)) := hw
  have hic : vp_in (nI c) 12 := k_idx hc (by decide)
  have hlt : nI c < (12 : Int32) := nI_lt (b := 12) hc (by decide)
  have key : ∀ k w : Nat, w + k = sWorks (fx b σ) → ∀ P : Int32 → Int32 → Prop, (∀ l4 l5 : Int32, (((σ.1 b 11) ≤ l5 → Q l4 σ) ∧ (¬ (σ.1 b 11) ≤ l5 → ((6 : Int32) ≤ l5 → Q l4 σ) ∧ (¬ (6 : Int32) ≤ l5 → vp_in l5 6 ∧ ((σ.1 (b + 6) l5.toNatClampNeg) ≠ nI c → ∀ x14 : Int32, x14 = l5 + (1 : Int32) → P l4 x14) ∧ ((σ.1 (b + 6) l5.toNatClampNeg) = nI c → ∀ x15 : Int32, x15 = l4 + (1 : Int32) → ∀ x16 : Int32, x16 = l5 + (1 : Int32) → P x15 x16)))) → P l4 l5) → Q (sStand (fx b σ) c) σ → P (sCnt (fx b σ) (nI c) w) (nI w) := by
    intro k
    induction k with
    | zero =>
      intro w hk P hP hQ
      have e : w = sWorks (fx b σ) := by omega
      refine hP _ _ ⟨fun _ => ?_, fun q => ?_⟩
      · rw [e]
        exact hQ
      · rw [hw, e] at q
        exact absurd (Int32.le_refl _) q
    | succ k ih =>
      intro w hk P hP hQ
      refine hP _ _ ⟨fun q => ?_, fun _ => ⟨fun q => absurd q (k_ge (N := 6) (by omega) (by decide) rfl), fun _ => ⟨k_idx (by omega) (by decide), fun q x ex => ?_, fun q x ex y ey => ?_⟩⟩⟩
      · rw [hw] at q
        exact absurd q (nI_ge (by omega) (by omega))
      · rw [k_cl (by omega)] at q
        have e := ih (w + 1) (by omega) P hP hQ
        rw [show sCnt (fx b σ) (nI c) (w + 1) = sCnt (fx b σ) (nI c) w from if_neg q] at e
        rw [ex, k_n1]
        exact e
      · rw [k_cl (by omega)] at q
        have e := ih (w + 1) (by omega) P hP hQ
        rw [show sCnt (fx b σ) (nI c) (w + 1) = sCnt (fx b σ) (nI c) w + 1 from if_pos q] at e
        rw [ey, k_n1, ex]
        exact e
  have cnt : Q num σ → wX0_named_80 b Q (nI c) l4 σ := by
    intro hq
    rcases hn with ⟨e1, e2⟩ | ⟨w, w6, e1, e2⟩
    · subst e1
      rw [e2] at hq
      exact ⟨fun _ P hP => key (sWorks (fx b σ)) 0 (by omega) P hP hq, fun q => absurd (by decide) q⟩
    · subst e1
      refine ⟨fun q => absurd q (k_nn (by omega)), fun _ => ⟨fun q => absurd q (k_ge (N := 6) w6 (by decide) rfl), fun _ => ⟨k_idx w6 (by decide), ?_⟩⟩⟩
      rw [k_cl (by omega)]
      rw [e2] at hq
      exact hq
  unfold sName at h
  refine ⟨fun q => absurd q (k_nn (by omega)), fun _ => ⟨fun _ => ⟨fun q => ?_, fun q => ⟨hic, ?_⟩, fun q => cnt ?_, fun q => ?_, fun q => ⟨hic, ?_⟩, fun q => ⟨hic, ?_⟩, fun q6 q5 q4 q3 q2 q1 => cnt ?_⟩, fun q => absurd hlt q⟩⟩
  · rw [if_pos q] at h
    exact h
  · rw [q, if_neg (by decide), if_pos rfl] at h
    rw [k_cl (by omega)]
    exact h
  · rw [q, if_neg (by decide), if_neg (by decide), if_neg (by decide), if_neg (by decide), if_neg (by decide)] at h
    exact h
  · rw [q, if_neg (by decide), if_neg (by decide), if_pos rfl] at h
    exact h
  · rw [q, if_neg (by decide), if_neg (by decide), if_neg (by decide), if_pos rfl] at h
    rw [k_cl (by omega)]
    exact h
  · rw [q, if_neg (by decide), if_neg (by decide), if_neg (by decide), if_neg (by decide), if_pos rfl] at h
    rw [k_cl (by omega)]
    exact h
  · rw [if_neg q6, if_neg q5, if_neg q3, if_neg q2, if_neg q1] at h
    exact h
theorem k_m1 {n : Nat} : nI (n + 1) + (-1 : Int32) = nI n := pk_m1 n
theorem k_s1 {n : Nat} : nI (n + 1) - (1 : Int32) = nI n := nI_pred n
theorem upd_at {f : Nat → Int32} {k : Nat} {x : Int32} : upd f k x k = x := pk_us
theorem upd_ne {f : Nat → Int32} {k j : Nat} {x : Int32} (h : j ≠ k) : upd f k x j = f j := pk_un h
theorem x_says {nt b c part : Nat} {T : kTxt} {l4 num : Int32} {σ : kS} {Q : Int32 → kS → Prop} (hO : sOk nt (fx b σ)) (hc : c < 12) (hp : part < 3) (hT : (xRow T part).2.1 ≤ 160) (hn : sNum (fx b σ) c l4 num)
    (h : ∀ σ' : kS, fx b σ' = fx b σ → xO b σ σ' → Q (sSay (xV T) (fx b σ) part c num) σ') : wX0_says b T (nI part) (nI c) l4 σ Q := by
  have go : ∀ e : kRow, e = xRow T part → wX0_says_13 b T Q (nI part) (nI c) l4 e (0 : Int32) (0 : Int32) σ := by
    intro e he P hP
    rw [← he] at hT
    suffices key : ∀ k i : Nat, i + k = e.2.1 → ∀ σ' : kS, fx b σ' = fx b σ → xO b σ σ' → (∀ j : Nat, j < (evN (sEnv (fx b σ) c num) e.2.2 i).1 → σ'.1 (b + 8) j = (evN (sEnv (fx b σ) c num) e.2.2 i).2 j) → P σ' (nI (evN (sEnv (fx b σ) c num) e.2.2 i).1) (nI i) from key e.2.1 0 (by omega) σ rfl xO.rf (fun j hj => absurd hj (Nat.not_lt_zero _))
    intro k
    induction k with
    | zero =>
      intro i hi σ' hf ho hs
      have e1 : i = e.2.1 := by omega
      have h178 : ∀ v : Int32, v = sClamp (kSaid part) (evV (sEnv (fx b σ) c num) e.2) → Q v σ' := by
        intro v hv
        have := h σ' hf ho
        unfold sSay xV at this
        rw [← he, ← hv] at this
        exact this
      refine hP _ _ _ ⟨fun _ => ⟨fun q => absurd q (k_nn (by omega)), fun _ => ⟨fun q => absurd q (k_ge (N := 3) hp (by decide) rfl), fun _ => ⟨k_idx hp (by decide), ?_⟩⟩⟩, fun q => ?_⟩
      · rw [k_cl (by omega)]
        refine ⟨fun q => h178 _ ?_, fun q => h178 _ ?_⟩
        · have z : (evN (sEnv (fx b σ) c num) e.2.2 i).1 = 0 := by
            rcases Nat.eq_zero_or_pos (evN (sEnv (fx b σ) c num) e.2.2 i).1 with z | z
            · exact z
            · exact absurd q (nI_nle z (by have := ev_top (env := sEnv (fx b σ) c num) (f := e.2.2) i; omega))
          unfold evV
          rw [← e1, if_pos z]
          rfl
        · have z : ¬ (evN (sEnv (fx b σ) c num) e.2.2 i).1 = 0 := fun z => q (by rw [z]; exact Int32.le_refl _)
          unfold evV
          rw [← e1, if_neg z]
          show sClamp (kSaid part) (σ'.1 (b + 8) 0) = _
          rw [hs 0 (by omega)]
      · rw [e1] at q
        exact absurd (Int32.le_refl _) q
    | succ k ih =>
      intro i hi σ' hf ho hs
      have ht := ev_top (env := sEnv (fx b σ) c num) (f := e.2.2) i
      have hnx : evN (sEnv (fx b σ) c num) e.2.2 (i + 1) = evStep (sEnv (fx b σ) c num) (e.2.2 i) (evN (sEnv (fx b σ) c num) e.2.2 i) := rfl
      have ih1 := ih (i + 1) (by omega)
      rw [hnx] at ih1
      generalize hg : evN (sEnv (fx b σ) c num) e.2.2 i = s at ht hs ih1 ⊢
      obtain ⟨t, f⟩ := s
      dsimp only at ht hs ⊢
      refine hP _ _ _ ⟨fun q => absurd q (nI_ge (by omega) (by omega)), fun _ => ⟨k_idx (by omega) (by omega), fun x6 e6 => ?_⟩⟩
      rw [k_cl (by omega)] at e6
      subst e6
      refine ⟨fun q => ⟨fun q2 => ⟨fun q3 x ex => ?_, fun q3 x11 e11 => ?_⟩, fun q2 => ⟨fun q3 x ex => ?_, fun q3 => ?_⟩⟩, fun q => ⟨fun q2 x ex => ?_, fun q2 => ?_⟩⟩
      · have z : t ≤ 1 := by
          rcases Nat.lt_or_ge 1 t with z | z
          · exact absurd q3 (nI_ge (a := 1) z (by omega))
          · exact z
        have e2 : evStep (sEnv (fx b σ) c num) (e.2.2 i) (t, f) = (t, f) := by unfold evStep; rw [if_pos q, if_pos q2]; exact if_pos z
        rw [e2] at ih1
        rw [ex, k_n1]
        exact ih1 σ' hf ho hs
      · have z : 1 < t := by
          rcases Nat.lt_or_ge 1 t with z | z
          · exact z
          · exact absurd (nI_le (a := t) (b := 1) z (by omega)) q3
        obtain ⟨u, rfl⟩ : ∃ u, t = u + 2 := ⟨t - 2, by omega⟩
        have ex : x11 = nI (u + 1) := by rw [e11]; exact k_m1
        have ey : x11 - (1 : Int32) = nI u := by rw [ex]; exact k_s1
        rw [ey]
        subst ex
        refine ⟨k_idx (by omega) (by decide), k_idx (by omega) (by decide), x_joined ⟨k_idx (by omega) (by decide), fun s13 es x14 e14 => ?_⟩⟩
        rw [k_cl (by omega), k_cl (by omega), hs u (by omega), hs (u + 1) (by omega)] at es
        have e2 : evStep (sEnv (fx b σ) c num) (e.2.2 i) (u + 2, f) = (u + 1, upd f u (sJoin (e.2.2 i) (f u) (f (u + 1)))) := by unfold evStep; rw [if_pos q, if_pos q2]; exact if_neg (by omega)
        rw [e2] at ih1
        rw [e14, k_n1]
        refine ih1 s13 ?_ ?_ ?_
        · rw [es, fx_stack]
          exact hf
        · rw [es]
          exact ho.tr (xO.set (by omega))
        · intro j hj
          dsimp only at hj ⊢
          rw [es]
          by_cases hju : j = u
          · subst hju
            rw [kset_at, upd_at]
          · rw [kset_ne hju, upd_ne hju]
            exact hs j (by omega)
      · have z : t = 0 := by
          rcases Nat.eq_zero_or_pos t with z | z
          · exact z
          · exact absurd q3 (nI_nle z (by omega))
        have e2 : evStep (sEnv (fx b σ) c num) (e.2.2 i) (t, f) = (t, f) := by unfold evStep; rw [if_pos q, if_neg q2]; exact if_pos z
        rw [e2] at ih1
        rw [ex, k_n1]
        exact ih1 σ' hf ho hs
      · have z : ¬ t = 0 := fun z => q3 (by rw [z]; exact Int32.le_refl _)
        obtain ⟨u, rfl⟩ : ∃ u, t = u + 1 := ⟨t - 1, by omega⟩
        rw [show nI (u + 1) - (1 : Int32) = nI u from k_s1]
        refine ⟨k_idx (by omega) (by decide), x_turned ⟨k_idx (by omega) (by decide), fun s18 es x19 e19 => ?_⟩⟩
        rw [k_cl (by omega), hs u (by omega)] at es
        have e2 : evStep (sEnv (fx b σ) c num) (e.2.2 i) (u + 1, f) = (u + 1, upd f u (sTurn (e.2.2 i) (f u))) := by unfold evStep; rw [if_pos q, if_neg q2]; exact if_neg z
        rw [e2] at ih1
        rw [e19, k_n1]
        refine ih1 s18 ?_ ?_ ?_
        · rw [es, fx_stack]
          exact hf
        · rw [es]
          exact ho.tr (xO.set (by omega))
        · intro j hj
          dsimp only at hj ⊢
          rw [es]
          by_cases hju : j = u
          · subst hju
            rw [kset_at, upd_at]
          · rw [kset_ne hju, upd_ne hju]
            exact hs j (by omega)
      · have z : 31 ≤ t := by
          rcases Nat.lt_or_ge t 31 with z | z
          · exact absurd q2 (nI_ge (b := 31) z (by decide))
          · exact z
        have e2 : evStep (sEnv (fx b σ) c num) (e.2.2 i) (t, f) = (t, f) := by unfold evStep; rw [if_neg q]; exact if_pos z
        rw [e2] at ih1
        rw [ex, k_n1]
        exact ih1 σ' hf ho hs
      · have z : t < 31 := by
          rcases Nat.lt_or_ge t 31 with z | z
          · exact z
          · exact absurd (nI_le (a := 31) (b := t) z (by omega)) q2
        have push : ∀ v : Int32, v = (if e.2.2 i < 0 then sName (sEnv (fx b σ) c num) (e.2.2 i) else e.2.2 i) → wX0_says_67 b T Q P (nI part) (nI c) l4 e (nI t) (nI i) v (nI t) σ' := by
          intro v hv
          refine ⟨k_idx z (by decide), fun s26 es x27 e27 x28 e28 => ?_⟩
          rw [k_cl (by omega)] at es
          have e2 : evStep (sEnv (fx b σ) c num) (e.2.2 i) (t, f) = (t + 1, upd f t v) := by
            unfold evStep
            rw [if_neg q, hv]
            exact if_neg (by show ¬ 31 ≤ t; omega)
          rw [e2] at ih1
          rw [e27, e28, k_n1, k_n1]
          refine ih1 s26 ?_ ?_ ?_
          · rw [es, fx_stack]
            exact hf
          · rw [es]
            exact ho.tr (xO.set (by omega))
          · intro j hj
            dsimp only at hj ⊢
            rw [es]
            by_cases hju : j = t
            · subst hju
              rw [kset_at, upd_at]
            · rw [kset_ne hju, upd_ne hju]
              exact hs j (by omega)
        refine ⟨fun q3 => ?_, fun q3 => push _ (if_neg q3).symm⟩
        refine x_named (nt := nt) (num := num) (by rw [hf]; exact hO) hc (by rw [hf]; exact hn) ?_
        rw [hf]
        exact push _ (if_pos q3).symm
  refine ⟨fun q => ⟨fun q2 => go _ ?_, fun q2 => go _ ?_⟩, fun q => go _ ?_⟩
  · unfold xRow
    rw [if_neg (fun z => q (by rw [z]; rfl)), if_neg (fun z => q2 (by rw [z]; rfl))]
  · have z : part = 1 := (nI_eq (b := 1) (by omega) (by decide)).mp q2
    subst z
    rfl
  · have z : part = 0 := (nI_eq (b := 0) (by omega) (by decide)).mp q
    subst z
    rfl
