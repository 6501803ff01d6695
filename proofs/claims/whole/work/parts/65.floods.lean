/-! the two programs side by side: floods -/
theorem m_isWork {nt : Nat} {A : kFn} {l : Int32} {σ : kS} {Q : Int32 → kS → Prop} (hO : sOk nt A) (hR : mR A σ) (h1 : ∀ w : Nat, w < sWorks A → l = nI w → Q 1 σ) (h0 : ¬ (0 ≤ l ∧ l < A 0 11) → Q 0 σ) : wX5_isWork l σ Q := by
  obtain ⟨h6, hn⟩ := hO.works
  have hn2 : σ.1 0 13 = nI (sWorks A) := hR.2.1.2.2.2.1.trans hn
  have hb : 0 ≤ A 0 11 ∧ A 0 11 ≤ 6 := by
    rw [hn]
    exact ⟨nI_pos' (by omega), nI_le (b := 6) h6 (by decide)⟩
  refine m_in32 (lo := 0) (hi := σ.1 0 13 - (1 : Int32)) (by decide) rfl (fun q => ⟨Or.inr rfl, ?_⟩) (fun q => ⟨Or.inl rfl, h0 ?_⟩)
  · rw [hn2, ← hn] at q
    have q2 : ¬ l < 0 := by grind
    obtain ⟨w, hw, e⟩ := nI_of (x := l) q2
    refine h1 w ?_ e
    have q3 : l < A 0 11 := by grind
    rw [hn, e] at q3
    exact (nI_ltI hw (by omega)).mp q3
  · rw [hn2, ← hn] at q
    grind
theorem s_floods {tx : List kTxt} {σx σm : kS} {l1 l2 : Int32} (hI : kInv tx σx σm) : wX4_floods tx l1 l2 σx (kSim tx σm (wX5_floods l1 l2 σm)) := by
  have hI0 := hI
  obtain ⟨a1, a2, a3, a4, a5, a6, a7, a8, a9⟩ := hI
  have hO := nf_ok.mpr a4
  obtain ⟨h6, hn6⟩ := a4.works
  have e11 : σx.1 3 11 = nI (sWorks (fx 3 σx)) := hn6
  have n11 : (nf (fx 3 σx)) 0 11 = σx.1 3 11 := nf_0 (by decide) (by decide)
  have bad : ¬ (0 ≤ l1 ∧ l1 < σx.1 3 11) → kSim tx σm (wX5_floods l1 l2 σm) (-2 : Int32) σx := by
    intro hb
    unfold kSim wX5_floods
    refine m_isWork hO a5 (fun w hw e => ?_) (fun _ => ⟨fun _ => ⟨rfl, hI0⟩, fun z => absurd rfl z⟩)
    exfalso
    rw [nf_works] at hw
    refine hb ?_
    rw [e, e11]
    exact ⟨nI_pos' (by omega), nI_lt hw (by omega)⟩
  refine ⟨fun q => bad (by grind), fun q => ⟨fun q2 => bad (by grind), fun q2 => ?_⟩⟩
  obtain ⟨w, hw, e⟩ := nI_of (x := l1) q
  subst e
  have hw2 : w < sWorks (fx 3 σx) := by
    rw [e11] at q2
    rcases Nat.lt_or_ge w (sWorks (fx 3 σx)) with z | z
    · exact z
    · exact absurd (nI_le z hw) q2
  refine x_areYears (fun n hn en => ⟨fun _ => ?_, fun z => absurd z (by decide)⟩) (fun q3 => ⟨fun z => absurd rfl z, fun _ => ?_⟩)
  · subst en
    refine x_with hn a1 a4 (fun s1 o1 => ?_)
    have now : fx 3 s1 = fx 3 σx := xO1_fx o1
    refine x_without hn (by omega) (a1.o1 o1) (by rw [now]; exact a4) (fun s2 o2 => ?_)
    rw [now]
    unfold kSim wX5_floods
    refine m_isWork hO a5 (fun _ _ _ => ⟨fun z => absurd z (by decide), fun _ => m_years (fun _ => ⟨fun _ => ?_, fun z => absurd z (by decide)⟩) (fun z => absurd (nI_30 hn) z)⟩) (fun z => ?_)
    · refine m_without hn (by omega) a2 hO a5 (fun t1 u1 => m_with hn (a2.u u1) hO (mU_R u1 a5) (fun t2 u2 => ⟨rfl, hI0.u (o1.tr o2) (u1.tr u2)⟩))
    · exfalso
      rw [n11, e11] at z
      exact z ⟨nI_pos' (by omega), nI_lt hw2 (by omega)⟩
  · unfold kSim wX5_floods
    refine m_isWork hO a5 (fun _ _ _ => ⟨fun z => absurd z (by decide), fun _ => m_years (fun z => absurd z q3) (fun _ => ⟨fun z => absurd rfl z, fun _ => ⟨rfl, hI0⟩⟩)⟩) (fun z => ?_)
    exfalso
    rw [n11, e11] at z
    exact z ⟨nI_pos' (by omega), nI_lt hw2 (by omega)⟩
