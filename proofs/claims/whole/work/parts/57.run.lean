/-! the two programs side by side: run, year -/
theorem i_div100 {x : Int32} : (x / 100).toInt = x.toInt.tdiv 100 := by
  have h1 := Int32.toInt_lt x
  have h2 := Int32.le_toInt x
  have e : (100 : Int32).toInt = 100 := by decide
  rw [Int32.toInt_div, e, i_bm]
  rcases Int.le_total 0 x.toInt with h | h
  · rw [Int.tdiv_eq_ediv_of_nonneg h]
    omega
  · have : (-x.toInt).tdiv 100 = -(x.toInt.tdiv 100) := Int.neg_tdiv ..
    rw [Int.tdiv_eq_ediv_of_nonneg (by omega)] at this
    omega
theorem i_div100_neg {x : Int32} (h : x < 0) : ¬ 1 ≤ x / 100 := by
  rw [i_lt] at h
  rw [i_le, i_div100]
  have e0 : (0 : Int32).toInt = 0 := by decide
  have e1 : (1 : Int32).toInt = 1 := by decide
  rw [e0] at h
  rw [e1]
  have : (-x.toInt).tdiv 100 = -(x.toInt.tdiv 100) := Int.neg_tdiv ..
  rw [Int.tdiv_eq_ediv_of_nonneg (by omega)] at this
  omega
theorem i_divrem {m d : Nat} (hm : m < 2 ^ 31) (h0 : 0 < d) (hd : d < 2 ^ 31) : nI m / nI d = nI (m / d) ∧ krem (nI m) (nI d) = nI (m % d) := ⟨pk_div hm h0 hd, pk_rem hm h0 hd⟩
/-- what run can be asked -/
def kRuns (l : Int32) : Prop := (0 ≤ l ∧ l ≤ 4) ∨ ∃ p c : Nat, 1 ≤ p ∧ p ≤ 3 ∧ c < 12 ∧ l = nI (100 * p + c)
theorem x_isOfRun {l : Int32} {Q : Int32 → Prop} (h1 : kRuns l → Q 1) (h0 : ¬ kRuns l → Q 0) : wX4_isOfRun l Q := by
  have rest : (¬ (0 ≤ l ∧ l ≤ 4)) → wX4_isOfRun_9 Q l := by
    intro hn
    refine ⟨fun q => h0 ?_, fun q => ⟨fun q2 => h0 ?_, fun q2 => ?_⟩⟩
    · rintro (z | ⟨p, c, p1, p3, c12, e⟩)
      · exact hn z
      · rw [e] at q
        exact absurd q (nI_nlt (b := 100) (by omega) (by omega))
    · rintro (z | ⟨p, c, p1, p3, c12, e⟩)
      · exact hn z
      · rw [e] at q2
        exact absurd q2 (nI_ge (b := 400) (by omega) (by omega))
    · obtain ⟨m, hm, e⟩ := nI_of2 (x := l) (M := 399) (n := 399) (by decide) (by grind) (by grind)
      have hm1 : 100 ≤ m := by
        rcases Nat.lt_or_ge m 100 with z | z
        · rw [e] at q
          exact absurd (nI_lt (b := 100) z (by omega)) q
        · exact z
      have e2 : krem l (100 : Int32) = nI (m % 100) := by
        rw [e]
        exact (i_divrem (d := 100) (by omega) (by decide) (by decide)).2
      refine ⟨fun q3 => h0 ?_, fun q3 => h1 (Or.inr ⟨m / 100, m % 100, by omega, by omega, ?_, ?_⟩)⟩
      · rintro (z | ⟨p, c, p1, p3, c12, e3⟩)
        · exact hn z
        · have em : m = 100 * p + c := by
            rw [e3] at e
            exact ((nI_eq (by omega) (by omega)).mp e).symm
          rw [e2, show m % 100 = c by omega] at q3
          exact absurd q3 (nI_ge (b := 12) c12 (by decide))
      · rcases Nat.lt_or_ge (m % 100) 12 with z | z
        · exact z
        · rw [e2] at q3
          exact absurd (nI_le (a := 12) z (by omega)) q3
      · rw [show 100 * (m / 100) + m % 100 = m by omega]
        exact e
  refine ⟨fun q => rest (by grind), fun q => ⟨fun q2 => h1 (Or.inl ⟨by grind, q2⟩), fun q2 => rest (by grind)⟩⟩
theorem m_isOfRun {l1 l : Int32} {σ : kS} {Q : Int32 → kS → Prop} (h1 : kRuns l → wX5_run_47 Q l1 l (1 : Int32) σ) (h0 : ¬ kRuns l → wX5_run_47 Q l1 l (0 : Int32) σ) : wX5_run l1 l σ Q := by
  refine m_in32 (lo := 0) (hi := 4) (by decide) (by decide) (fun q => ⟨fun _ => h1 (Or.inl q), fun z => absurd z (by decide)⟩) (fun q => ⟨fun z => absurd rfl z, fun _ => ?_⟩)
  refine m_in32 (lo := 1) (hi := 3) (by decide) (by decide) (fun q1 => ⟨fun z => absurd z (by decide), fun _ => ?_⟩) (fun q1 => ⟨fun _ => h0 ?_, fun z => absurd rfl z⟩)
  · have hpos : ¬ l < 0 := fun z => i_div100_neg z q1.1
    obtain ⟨m, hm, e⟩ := nI_of (x := l) hpos
    have ed := i_divrem (m := m) (d := 100) hm (by decide) (by decide)
    have e1 : l / (100 : Int32) = nI (m / 100) := by rw [e]; exact ed.1
    have e2 : krem l (100 : Int32) = nI (m % 100) := by rw [e]; exact ed.2
    rw [e1] at q1
    have b1 : 1 ≤ m / 100 := (nI_leI (a := 1) (by decide) (by omega)).mp q1.1
    have b2 : m / 100 ≤ 3 := (nI_leI (b := 3) (by omega) (by decide)).mp q1.2
    rw [e2]
    refine m_in32 (lo := 0) (hi := 11) (by decide) (by decide) (fun q2 => ⟨fun z => absurd z (by decide), fun _ => h1 (Or.inr ⟨m / 100, m % 100, b1, b2, ?_, ?_⟩)⟩) (fun q2 => ⟨fun _ => h0 ?_, fun z => absurd rfl z⟩)
    · have := (nI_leI (b := 11) (by omega) (by decide)).mp q2.2
      omega
    · rw [show 100 * (m / 100) + m % 100 = m by omega]
      exact e
    · rintro (z | ⟨p, c, p1, p3, c12, e3⟩)
      · exact q z
      · have em : m = 100 * p + c := by
          rw [e3] at e
          exact ((nI_eq (by omega) (by omega)).mp e).symm
        refine q2 ⟨nI_pos' (by omega), nI_le (b := 11) (by omega) (by decide)⟩
  · rintro (z | ⟨p, c, p1, p3, c12, e3⟩)
    · exact q z
    · have ed := i_divrem (m := 100 * p + c) (d := 100) (by omega) (by decide) (by decide)
      have e1 : l / (100 : Int32) = nI p := by
        rw [e3]
        refine ed.1.trans ?_
        rw [show (100 * p + c) / 100 = p by omega]
      refine q1 ?_
      rw [e1]
      exact ⟨nI_le (a := 1) p1 (by omega), nI_le (b := 3) p3 (by decide)⟩
theorem x_getC {b k c : Nat} {σ : kS} {Q : Int32 → kS → Prop} (h1 : 1 ≤ k) (h2 : k ≤ 3) (hc : c < 12) (h : Q (fx b σ k c) σ) : wX0_get b (nI (k + 1)) (nI c) σ Q := by
  have ne : ∀ a : Nat, a < 1000 → a ≠ k + 1 → ¬ nI (k + 1) = nI a := fun a ha hn e => hn ((nI_eq (by omega) (by omega)).mp e).symm
  have fin : ∀ p : Nat, p = b + k → ((nI c < 0 → Q (0 : Int32) σ) ∧ (¬ nI c < 0 → ((Int32.ofNat 12) ≤ nI c → Q (0 : Int32) σ) ∧ (¬ (Int32.ofNat 12) ≤ nI c → vp_in (nI c) 12 ∧ Q (σ.1 p (nI c).toNatClampNeg) σ))) := by
    intro p hp
    refine ⟨fun q => absurd q (k_nn (by omega)), fun _ => ⟨fun q => absurd q (nI_ge (b := 12) hc (by decide)), fun _ => ⟨k_idx hc (by decide), ?_⟩⟩⟩
    rw [k_cl (by omega), hp]
    unfold fx at h
    rw [if_pos (by omega)] at h
    exact h
  refine ⟨fun q => absurd q (ne 0 (by decide) (by omega)), fun q => absurd q (ne 1 (by decide) (by omega)), fun q => absurd q (ne 11 (by decide) (by omega)), fun _ _ _ => ?_⟩
  have hk : k = 1 ∨ k = 2 ∨ k = 3 := by omega
  refine ⟨fun q => fin _ ?_, fun q => fin _ ?_, fun q => fin _ ?_, fun q => absurd q (ne 5 (by decide) (by omega)), fun q => absurd q (ne 6 (by decide) (by omega)), fun q => absurd q (ne 7 (by decide) (by omega)), fun q2 q3 q4 _ _ _ => ?_⟩
  · have := (nI_eq (a := k + 1) (b := 2) (by omega) (by decide)).mp q
    omega
  · have := (nI_eq (a := k + 1) (b := 3) (by omega) (by decide)).mp q
    omega
  · have := (nI_eq (a := k + 1) (b := 4) (by omega) (by decide)).mp q
    omega
  · rcases hk with e | e | e <;> subst e
    · exact absurd rfl q2
    · exact absurd rfl q3
    · exact absurd rfl q4
