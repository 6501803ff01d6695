/-! the two programs side by side: run, year -/
theorem s_run {tx : List kTxt} {σx σm : kS} {l1 l2 : Int32} (hI : kInv tx σx σm) : wX4_run tx l1 l2 σx (kSim tx σm (wX5_run l1 l2 σm)) := by
  have hI0 := hI
  obtain ⟨a1, a2, a3, a4, a5, a6, a7, a8, a9⟩ := hI
  refine x_areYears (fun n hn en => ⟨fun q => absurd q (by decide), fun _ => ?_⟩) (fun q => ⟨fun _ => ?_, fun z => absurd rfl z⟩)
  · subst en
    refine x_isOfRun (fun hr => ⟨fun _ => ?_, fun z => absurd z (by decide)⟩) (fun hr => ⟨fun z => absurd rfl z, fun _ => ?_⟩)
    · refine x_years hn a1 a4 (fun s1 o1 f1 d1 => ?_)
      have now : fx 3 s1 = fx 3 σx := xO1_fx o1
      -- the reference's side
      have go : ∀ r : Int32, (∀ s2 : kS, mU σm s2 → (∀ i : Nat, i < n → s2.1 9 i = sDrys (sW tx) false 0 (nf (fx 3 σx)) i) → s2.1 0 33 = sDry (sRun (sW tx) false 0 n (nf (fx 3 σx))) → s2.1 0 32 = (sRun (sW tx) false 0 n (nf (fx 3 σx))) 0 10 - (nf (fx 3 σx)) 0 10 → mLast (sRun (sW tx) false 0 n (nf (fx 3 σx))) s2 → ∀ Q : Int32 → kS → Prop, Q r s2 → ((l2 ≤ (4 : Int32) → ((2 : Int32) ≤ l2 → wX5_judged (nI n) s2 (fun r14 s13 => (l2 ≠ (2 : Int32) → (l2 ≠ (4 : Int32) → (r14 ≠ (-1 : Int32) → vp_in r14 31 ∧ wX5_bitsOf (s13.1 9 r14.toNatClampNeg) (fun r18 => Q r18 s13)) ∧ (r14 = (-1 : Int32) → Q (-1 : Int32) s13)) ∧ (l2 = (4 : Int32) → wX5_kept (nI n) s13 (fun r20 s19 => Q r20 s19))) ∧ (l2 = (2 : Int32) → Q r14 s13))) ∧ (¬ (2 : Int32) ≤ l2 → (l2 ≠ 0 → Q (s2.1 0 32) s2) ∧ (l2 = 0 → Q (s2.1 0 33) s2))) ∧ (¬ l2 ≤ (4 : Int32) → vp_in ((((3 : Int32) * (krem l2 (100 : Int32))) + (l2 / (100 : Int32))) - (1 : Int32)) 36 ∧ Q (s2.1 8 ((((3 : Int32) * (krem l2 (100 : Int32))) + (l2 / (100 : Int32))) - (1 : Int32)).toNatClampNeg) s2))) → kSim tx σm (wX5_run (nI n) l2 σm) r s1 := by
        intro r hr2
        refine m_isOfRun (fun _ => ?_) (fun z => absurd hr z)
        refine m_years (fun _ => ⟨fun z => absurd z (by decide), fun _ => ⟨fun _ => ?_, fun z => absurd z (by decide)⟩⟩) (fun z => absurd (nI_30 hn) z)
        exact m_runs (d := false) hn rfl a2 (nf_ok.mpr a4) a5 (fun s2 u2 d2 e33 e32 el => hr2 s2 u2 d2 e33 e32 el _ ⟨rfl, hI0.u o1 u2⟩)
      have jud : ∀ s2 : kS, (∀ i : Nat, i < n → s2.1 9 i = sDrys (sW tx) false 0 (nf (fx 3 σx)) i) → ∀ i : Nat, i < n → s2.1 9 i = sDrys (sW tx) false 0 (nf (fx 3 σx)) i ∧ isSet (sDrys (sW tx) false 0 (nf (fx 3 σx)) i) := fun s2 d2 i hi => ⟨d2 i hi, sDry_set⟩
      refine ⟨fun q => ?_, fun q => ?_, fun q => ?_, fun q => ⟨fun q2 => ?_, fun q2 => ?_⟩, fun q => ?_, fun q0 q1 q2 q3 q4 => ?_⟩
      · subst q
        refine x_dryCells (go _ (fun s2 u2 d2 e33 e32 el Q hq => ⟨fun _ => ⟨fun z => absurd z (by decide), fun _ => ⟨fun z => absurd rfl z, fun _ => ?_⟩⟩, fun z => absurd (by decide) z⟩))
        rw [e33, ← f1, nf_dry]
        exact hq
      · subst q
        refine go _ (fun s2 u2 d2 e33 e32 el Q hq => ⟨fun _ => ⟨fun z => absurd z (by decide), fun _ => ⟨fun _ => ?_, fun z => absurd z (by decide)⟩⟩, fun z => absurd (by decide) z⟩)
        rw [e32, ← f1, nf_0 (by decide) (by decide), nf_0 (by decide) (by decide), ← now]
        exact hq
      · subst q
        refine x_mostDry hn d1 (x_firstDried hn d1 (go _ (fun s2 u2 d2 e33 e32 el Q hq => ⟨fun _ => ⟨fun _ => ?_, fun z => absurd (by decide) z⟩, fun z => absurd (by decide) z⟩)))
        refine m_judged hn (jud s2 d2) (fun h0 => ⟨fun z => absurd rfl z, fun _ => ?_⟩) (fun j hj e1 e2 => ⟨fun z => absurd rfl z, fun _ => ?_⟩)
        · subst h0
          exact hq
        · rw [← e1]
          exact hq
      · subst q
        refine x_mostDry hn d1 (go _ (fun s2 u2 d2 e33 e32 el Q hq => ⟨fun _ => ⟨fun _ => ?_, fun z => absurd (by decide) z⟩, fun z => absurd (by decide) z⟩))
        refine m_judged hn (jud s2 d2) (fun h0 => ?_) (fun j hj e1 e2 => ⟨fun _ => ⟨fun _ => ⟨fun _ => ⟨k_idx (by omega) (by decide), ?_⟩, fun z => absurd z (nI_nm1 (by omega))⟩, fun z => absurd z (by decide)⟩, fun z => absurd z (by decide)⟩)
        · subst h0
          exact absurd rfl q2
        · rw [k_cl (by omega), d2 j hj]
          refine m_bitsOf sDry_set ?_
          rw [e2]
          exact hq
      · subst q
        refine go _ (fun s2 u2 d2 e33 e32 el Q hq => ⟨fun _ => ⟨fun _ => ?_, fun z => absurd (by decide) z⟩, fun z => absurd (by decide) z⟩)
        have hn0 : n = 0 := by
          have h2 : nI n = 0 := q2
          rcases Nat.eq_zero_or_pos n with e | e
          · exact e
          · exact absurd h2 (nI_ne0 e (by omega))
        refine m_judged hn (jud s2 d2) (fun h0 => ⟨fun _ => ⟨fun _ => ⟨fun z => absurd rfl z, fun _ => hq⟩, fun z => absurd z (by decide)⟩, fun z => absurd z (by decide)⟩) (fun j hj e1 e2 => absurd hj (by omega))
      · subst q
        refine x_keptYears hn d1 (go _ (fun s2 u2 d2 e33 e32 el Q hq => ⟨fun _ => ⟨fun _ => ?_, fun z => absurd (by decide) z⟩, fun z => absurd (by decide) z⟩))
        refine m_judged hn (jud s2 d2) (fun h0 => ⟨fun _ => ⟨fun z => absurd rfl z, fun _ => m_kept hn (jud s2 d2) hq⟩, fun z => absurd z (by decide)⟩) (fun j hj e1 e2 => ⟨fun _ => ⟨fun z => absurd rfl z, fun _ => m_kept hn (jud s2 d2) hq⟩, fun z => absurd z (by decide)⟩)
      · rcases hr with hr | ⟨p, c, p1, p3, c12, e⟩
        · exfalso
          obtain ⟨m, hm, e⟩ := nI_of2 (x := l2) (M := 4) (n := 4) (by decide) (by grind) hr.2
          have hc : m = 0 ∨ m = 1 ∨ m = 2 ∨ m = 3 ∨ m = 4 := by omega
          rcases hc with h | h | h | h | h <;> subst h
          · exact q0 e
          · exact q1 e
          · exact q2 e
          · exact q3 e
          · exact q4 e
        · have ed := i_divrem (m := 100 * p + c) (d := 100) (by omega) (by decide) (by decide)
          have e1 : l2 / (100 : Int32) = nI p := by
            rw [e]
            refine ed.1.trans ?_
            rw [show (100 * p + c) / 100 = p by omega]
          have e2 : krem l2 (100 : Int32) = nI c := by
            rw [e]
            refine ed.2.trans ?_
            rw [show (100 * p + c) % 100 = c by omega]
          have e3 : (((2 : Int32) + (l2 / (100 : Int32))) - (1 : Int32)) = nI (p + 1) := by
            rw [e1, show (2 : Int32) = nI 2 from rfl, nI_add, show 2 + p = (p + 1) + 1 by omega, nI_pred]
          have e4 : (((3 : Int32) * (krem l2 (100 : Int32))) + (l2 / (100 : Int32))) - (1 : Int32) = nI (3 * c + (p - 1)) := by
            rw [e1, e2, n_3, nI_add, show 3 * c + p = (3 * c + (p - 1)) + 1 by omega, nI_pred]
          rw [e3, e2]
          refine x_getC p1 p3 c12 (go _ (fun s2 u2 d2 e33 e32 el Q hq => ⟨fun z => ?_, fun _ => ?_⟩))
          · rw [e] at z
            exact absurd z (nI_ge (a := 4) (by omega) (by omega))
          · rw [e4, k_cl (by omega)]
            refine ⟨k_idx (by omega) (by decide), ?_⟩
            have hv : s2.1 8 (3 * c + (p - 1)) = fx 12 s1 p c := by
              rw [← nf_c (A := fx 12 s1) p1 p3 c12, f1]
              have hp : p = 1 ∨ p = 2 ∨ p = 3 := by omega
              rcases hp with h | h | h <;> subst h
              · exact (el c c12).1
              · exact (el c c12).2.1
              · exact (el c c12).2.2
            rw [hv]
            exact hq
    · refine m_isOfRun (fun z => absurd z hr) (fun _ => ?_)
      exact m_years (fun _ => ⟨fun z => absurd z (by decide), fun _ => ⟨fun z => absurd rfl z, fun _ => ⟨rfl, hI0⟩⟩⟩) (fun z => absurd (nI_30 hn) z)
  · have out : ∀ ks : Int32, wX5_run_47 (fun r' σm' => r' = -2 ∧ kInv tx σx σm') l1 l2 ks σm := fun ks => m_years (fun z => absurd z q) (fun _ => ⟨fun _ => ⟨rfl, hI0⟩, fun z => absurd rfl z⟩)
    exact m_isOfRun (fun _ => out _) (fun _ => out _)
