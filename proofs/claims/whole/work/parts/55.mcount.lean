/-! pure: counts of years, of the reference -/
theorem sFirstN_at {D : Nat → Int32} {k : Int32} {j : Nat} : ∀ r i : Nat, i ≤ j → j < i + r → (∀ x : Nat, i ≤ x → x < j → sPop (D x) < k) → ¬ sPop (D j) < k → sFirstN D k i r = nI j := by
  intro r
  induction r with
  | zero => exact fun i h1 h2 => absurd h2 (by omega)
  | succ r ih =>
    intro i h1 h2 h3 h4
    by_cases e : i = j
    · subst e
      exact if_neg h4
    · rw [show sFirstN D k i (r + 1) = sFirstN D k (i + 1) r from if_pos (h3 i (Nat.le_refl _) (by omega))]
      exact ih (i + 1) (by omega) (by omega) (fun x hx => h3 x (by omega)) h4
theorem nI_nm1 {j : Nat} (h : j < 1000) : ¬ nI j = (-1 : Int32) := by
  intro q
  have := nI_pos (n := j) (by omega)
  rw [q] at this
  exact this (by decide)
theorem m_first {n : Nat} {k : Int32} {D : Nat → Int32} {σ : kS} {Q : Int32 → kS → Prop} (hn : n ≤ 30) (hD : ∀ i : Nat, i < n → σ.1 9 i = D i ∧ isSet (D i)) (h : Q (sFirstN D k 0 n) σ) : wX5_first_36 Q (nI n) k (0 : Int32) σ := by
  intro P hP
  suffices key : ∀ r i : Nat, i + r = n → sFirstN D k i r = sFirstN D k 0 n → P (nI i) from key n 0 (by omega) rfl
  intro r
  induction r with
  | zero =>
    intro i hi e
    have e2 : i = n := by omega
    subst e2
    refine hP _ ⟨fun _ => ?_, fun q => absurd (Int32.le_refl _) q⟩
    rw [← e] at h
    exact h
  | succ r ih =>
    intro i hi e
    obtain ⟨d1, d2⟩ := hD i (by omega)
    refine hP _ ⟨fun q => absurd q (nI_ge (by omega) (by omega)), fun _ => ⟨k_idx (by omega) (by decide), ?_⟩⟩
    rw [k_cl (by omega), d1]
    refine m_bitsOf d2 ⟨fun q x ex => ?_, fun q => ?_⟩
    · rw [ex, k_n1]
      refine ih (i + 1) (by omega) ?_
      rw [← e]
      exact (if_pos q).symm
    · have e3 : sFirstN D k i (r + 1) = nI i := if_neg q
      rw [e3] at e
      rw [e]
      exact h
theorem m_judged {n : Nat} {D : Nat → Int32} {σ : kS} {Q : Int32 → kS → Prop} (hn : n ≤ 30) (hD : ∀ i : Nat, i < n → σ.1 9 i = D i ∧ isSet (D i)) (h0 : n = 0 → Q (-1 : Int32) σ) (h : ∀ j : Nat, j < n → sFirstN D (sMost D n) 0 n = nI j → sPop (D j) = sMost D n → Q (nI j) σ) : wX5_judged (nI n) σ Q := by
  intro P hP
  have body : ∀ k i j : Nat, i + k = n → j < i → sPop (D j) = sMost D i → (∀ x : Nat, x < j → sPop (D x) < sPop (D j)) → P (nI j) (nI i) := by
    intro k
    induction k with
    | zero =>
      intro i j hi hj e1 e2
      have e : i = n := by omega
      subst e
      refine hP _ _ ⟨fun _ => h j hj ?_ e1, fun q => absurd (Int32.le_refl _) q⟩
      rw [← e1]
      exact sFirstN_at i 0 (by omega) (by omega) (fun x _ hx => e2 x hx) Int32.lt_irrefl
    | succ k ih =>
      intro i j hi hj e1 e2
      obtain ⟨d1, d2⟩ := hD i (by omega)
      obtain ⟨d3, d4⟩ := hD j (by omega)
      refine hP _ _ ⟨fun q => absurd q (nI_ge (by omega) (by omega)), fun _ => ⟨fun q => absurd q (nI_nm1 (by omega)), fun _ => ⟨k_idx (by omega) (by decide), ?_⟩⟩⟩
      rw [k_cl (by omega), d1]
      refine m_bitsOf d2 ⟨k_idx (by omega) (by decide), ?_⟩
      rw [k_cl (by omega), d3]
      refine m_bitsOf d4 ⟨fun q x ex => ?_, fun q x ex => ?_⟩
      · rw [ex, k_n1]
        refine ih (i + 1) j (by omega) (by omega) ?_ e2
        rw [show sMost D (i + 1) = sMost D i from if_neg (by rw [← e1]; grind)]
        exact e1
      · rw [ex, k_n1]
        have hlt : sMost D i < sPop (D i) := by rw [← e1]; grind
        refine ih (i + 1) i (by omega) (by omega) ?_ (fun x hx => ?_)
        · rw [show sMost D (i + 1) = sPop (D i) from if_pos hlt]
        · have key : ∀ m : Nat, ∀ y : Nat, y < m → sPop (D y) ≤ sMost D m := by
            intro m
            induction m with
            | zero => exact fun y hy => absurd hy (by omega)
            | succ m ihm =>
              intro y hy
              show sPop (D y) ≤ (if sMost D m < sPop (D m) then sPop (D m) else sMost D m)
              by_cases ey : y = m
              · subst ey
                split
                · exact Int32.le_refl _
                · grind
              · have := ihm y (by omega)
                split
                · grind
                · exact this
          have := key i x hx
          grind
  refine hP _ _ ⟨fun q => ?_, fun q => ?_⟩
  · rcases Nat.eq_zero_or_pos n with e | e
    · exact h0 e
    · exact absurd q (nI_nle e (by omega))
  · have hp : 0 < n := by
      rcases Nat.eq_zero_or_pos n with e | e
      · rw [e] at q
        exact absurd (by decide) q
      · exact e
    refine ⟨fun _ x ex => ?_, fun z => absurd rfl z⟩
    rw [ex]
    have hs := (hD 0 hp).2.pop.1
    refine body (n - 1) 1 0 (by omega) (by omega) ?_ (fun x hx => absurd hx (by omega))
    show _ = (if 0 < sPop (D 0) then sPop (D 0) else 0)
    split
    · rfl
    · grind
theorem m_kept {n : Nat} {D : Nat → Int32} {σ : kS} {Q : Int32 → kS → Prop} (hn : n ≤ 30) (hD : ∀ i : Nat, i < n → σ.1 9 i = D i ∧ isSet (D i)) (h : Q (sKept D n).1 σ) : wX5_kept (nI n) σ Q := by
  intro P hP
  suffices key : ∀ r i : Nat, i + r = n → P (sKept D i).2 (sKept D i).1 (nI i) from key n 0 (by omega)
  intro r
  induction r with
  | zero =>
    intro i hi
    have e2 : i = n := by omega
    subst e2
    exact hP _ _ _ ⟨fun _ => h, fun q => absurd (Int32.le_refl _) q⟩
  | succ r ih =>
    intro i hi
    have e := ih (i + 1) (by omega)
    obtain ⟨d1, d2⟩ := hD i (by omega)
    refine hP _ _ _ ⟨fun q => absurd q (nI_ge (by omega) (by omega)), fun _ => ⟨k_idx (by omega) (by decide), ?_⟩⟩
    rw [k_cl (by omega), d1]
    refine m_bitsOf d2 ⟨fun q x4 e4 => ⟨fun _ x ex => ?_, fun z => ?_⟩, fun q x4 e4 => ⟨fun z x ex => ?_, fun z x ex => ?_⟩⟩
    · rw [show sKept D (i + 1) = sKept D i from if_pos q] at e
      rw [ex, k_n1, e4, Int32.add_zero]
      exact e
    · exact absurd (Int32.le_of_lt q) z
    · rw [show sKept D (i + 1) = ((sKept D i).1 + 1, sPop (D i)) from if_neg q] at e
      have ee : (sKept D i).2 = sPop (D i) := by grind
      rw [ex, k_n1, e4, ee]
      exact e
    · rw [show sKept D (i + 1) = ((sKept D i).1 + 1, sPop (D i)) from if_neg q] at e
      rw [ex, k_n1, e4]
      exact e
