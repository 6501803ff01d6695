/-! the two programs side by side: told, set -/
theorem sOk.set5 {nt w : Nat} {A : kFn} {v : Int32} (h : sOk nt A) (hv : 0 ≤ v ∧ v ≤ 9) : sOk nt (fset A 5 w v) := by
  obtain ⟨a, b, c, d, e⟩ := h
  refine ⟨a, b, c, d, fun y hy => ?_⟩
  rw [sWorks_set (by decide)] at hy
  obtain ⟨e1, e2, e3, e4⟩ := e y hy
  refine ⟨e1, ?_, e3, e4⟩
  by_cases q : y = w
  · subst q
    rw [fset_at]
    exact hv
  · rw [fset_ne q]
    exact e2
theorem sOk.set6 {nt w : Nat} {A : kFn} {v : Int32} (h : sOk nt A) (hv : ∃ p : Nat, p < 12 ∧ v = nI p) : sOk nt (fset A 6 w v) := by
  obtain ⟨a, b, c, d, e⟩ := h
  refine ⟨a, b, c, d, fun y hy => ?_⟩
  rw [sWorks_set (by decide)] at hy
  obtain ⟨e1, e2, e3, e4⟩ := e y hy
  refine ⟨e1, e2, ?_, e4⟩
  by_cases q : y = w
  · subst q
    rw [fset_at]
    exact hv
  · rw [fset_ne q]
    exact e3
theorem sOk.set7v {nt w : Nat} {A : kFn} {v : Int32} (h : sOk nt A) (hv : v = 0 ∨ v = 1) : sOk nt (fset A 7 w v) := by
  obtain ⟨a, b, c, d, e⟩ := h
  refine ⟨a, b, c, d, fun y hy => ?_⟩
  rw [sWorks_set (by decide)] at hy
  obtain ⟨e1, e2, e3, e4⟩ := e y hy
  refine ⟨e1, e2, e3, ?_⟩
  by_cases q : y = w
  · subst q
    rw [fset_at]
    exact hv
  · rw [fset_ne q]
    exact e4
theorem sOk.set4 {nt w : Nat} {A : kFn} {v : Int32} (h : sOk nt A) (hv : 0 ≤ v ∧ v ≤ 5) : sOk nt (fset A 4 w v) := by
  obtain ⟨a, b, c, d, e⟩ := h
  refine ⟨a, b, c, d, fun y hy => ?_⟩
  rw [sWorks_set (by decide)] at hy
  obtain ⟨e1, e2, e3, e4⟩ := e y hy
  refine ⟨?_, e2, e3, e4⟩
  by_cases q : y = w
  · subst q
    rw [fset_at]
    exact hv
  · rw [fset_ne q]
    exact e1
theorem i_to11 {v : Int32} (h : 0 ≤ v ∧ v ≤ 11) : ∃ p : Nat, p < 12 ∧ v = nI p := by
  obtain ⟨p, hp, e⟩ := nI_of2 (x := v) (M := 11) (n := 11) (by decide) (by grind) h.2
  exact ⟨p, by omega, e⟩
theorem i_to1 {v : Int32} (h : 0 ≤ v ∧ v ≤ 1) : v = 0 ∨ v = 1 := by
  obtain ⟨p, hp, e⟩ := nI_of2 (x := v) (M := 1) (n := 1) (by decide) (by grind) h.2
  rcases (by omega : p = 0 ∨ p = 1) with z | z <;> subst z
  · exact Or.inl e
  · exact Or.inr e
theorem sOk.put {nt what of : Nat} {A : kFn} {v : Int32} (h : sOk nt A) (hw : what ≤ 8) (hv : 0 ≤ v ∧ v ≤ kMost what) : sOk nt (fset A (kSl what of).1 (kSl what of).2 v) := by
  rcases w_cases (show what ≤ 9 by omega) with e | e | e | e | e | e | e | e | e | e <;> subst e
  · exact h.set8 hv
  · exact h.set9
  · exact h.set1 hv
  · exact h.set2 hv
  · exact h.set3 hv
  · exact h.set5 hv
  · exact h.set6 (i_to11 hv)
  · exact h.set7v (i_to1 hv)
  · exact h.set4 hv
  · exact absurd hw (by decide)
theorem works_put {what of : Nat} {A : kFn} {v : Int32} (hw : what ≤ 9) : sWorks (fset A (kSl what of).1 (kSl what of).2 v) = sWorks A := by
  have z : ∀ i : Nat, 11 ≠ i → sWorks (fset A 0 i v) = sWorks A := fun i hi => by
    unfold sWorks
    rw [fset_ne hi]
  rcases w_cases hw with e | e | e | e | e | e | e | e | e | e <;> subst e
  · exact z 8 (by decide)
  · exact z 9 (by decide)
  · exact sWorks_set (r := 1) (by decide)
  · exact sWorks_set (r := 2) (by decide)
  · exact sWorks_set (r := 3) (by decide)
  · exact sWorks_set (r := 5) (by decide)
  · exact sWorks_set (r := 6) (by decide)
  · exact sWorks_set (r := 7) (by decide)
  · exact sWorks_set (r := 4) (by decide)
  · exact z 12 (by decide)
theorem kUse_sl {what of : Nat} (hw : what ≤ 9) (hc : 2 ≤ what → what ≤ 4 → of < 12) (hk : 5 ≤ what → what ≤ 8 → of < 6) : kUse (kSl what of).1 (kSl what of).2 = true := by
  rcases w_cases hw with e | e | e | e | e | e | e | e | e | e <;> subst e
  · rfl
  · rfl
  · exact kUse_c (r := 1) (by decide) (by decide) (hc (by decide) (by decide))
  · exact kUse_c (r := 2) (by decide) (by decide) (hc (by decide) (by decide))
  · exact kUse_c (r := 3) (by decide) (by decide) (hc (by decide) (by decide))
  · exact kUse_w (r := 5) (by decide) (by decide) (hk (by decide) (by decide))
  · exact kUse_w (r := 6) (by decide) (by decide) (hk (by decide) (by decide))
  · exact kUse_w (r := 7) (by decide) (by decide) (hk (by decide) (by decide))
  · exact kUse_w (r := 4) (by decide) (by decide) (hk (by decide) (by decide))
  · rfl
theorem kYear_put {what of : Nat} {A : kFn} {v : Int32} (h : kYear A) (hw : what ≤ 9) (hv : what = 1 → 0 ≤ v ∧ v ≤ 999) : kYear (fset A (kSl what of).1 (kSl what of).2 v) := by
  rcases w_cases hw with e | e | e | e | e | e | e | e | e | e <;> subst e
  · exact h
  · exact hv rfl
  · exact h
  · exact h
  · exact h
  · exact h
  · exact h
  · exact h
  · exact h
  · exact h
theorem kHas_in {A : kFn} {l1 l2 : Int32} (h : kHas A l1 l2) : 0 ≤ l1 ∧ l1 ≤ 10 := by
  rcases h with h | h | h | h
  · rw [h]; decide
  · rw [h]; decide
  · exact ⟨Int32.le_trans (by decide) h.1, Int32.le_trans h.2.1 (by decide)⟩
  · exact ⟨Int32.le_trans (by decide) h.1, h.2.1⟩
theorem kHas_mk {nt what of : Nat} {A : kFn} {l2 : Int32} (hO : sOk nt A) (hw : what ≤ 10) (hl : 2 ≤ what → l2 = nI of) (hc : 2 ≤ what → what ≤ 4 → of < 12) (hk : 5 ≤ what → of < sWorks A) : kHas A (nI what) l2 := by
  obtain ⟨h6, hn⟩ := hO.works
  rcases (by omega : what = 0 ∨ what = 1 ∨ (2 ≤ what ∧ what ≤ 4) ∨ 5 ≤ what) with e | e | e | e
  · subst e
    exact Or.inl rfl
  · subst e
    exact Or.inr (Or.inl rfl)
  · have := hc e.1 e.2
    refine Or.inr (Or.inr (Or.inl ⟨nI_le (a := 2) e.1 (by omega), nI_le (b := 4) e.2 (by decide), ?_, ?_⟩))
    · rw [hl e.1]
      exact nI_pos' (by omega)
    · rw [hl e.1]
      exact nI_lt (b := 12) this (by decide)
  · have := hk e
    refine Or.inr (Or.inr (Or.inr ⟨nI_le (a := 5) e (by omega), nI_le (b := 10) hw (by decide), ?_, ?_⟩))
    · rw [hl (by omega)]
      exact nI_pos' (by omega)
    · rw [hl (by omega), hn]
      exact nI_lt this (by omega)
theorem m_told {nt what of : Nat} {A : kFn} {l1 : Int32} {σ : kS} {Q : Int32 → kS → Prop} (hO : sOk nt A) (hR : mR A σ) (hw : what ≤ 8) (hl : 2 ≤ what → l1 = nI of) (hc : 2 ≤ what → what ≤ 4 → of < 12) (hk : 5 ≤ what → of < sWorks A) (h : Q (A (kSl what of).1 (kSl what of).2) σ) : wX5_told l1 (nI what) σ Q := by
  have h6 := hO.works.1
  have hv := mR_val (what := what) (of := of) (by omega) hc (fun z _ => hk z) hR
  rw [← hv] at h
  have hin : (0 : Int32) ≤ nI what ∧ nI what ≤ 10 := ⟨nI_pos' (by omega), nI_le (b := 10) (by omega) (by decide)⟩
  refine m_in32 (lo := 0) (hi := 10) (by decide) (by decide) (fun _ => ⟨fun z => absurd z (by decide), fun _ => m_isOf hO hR hin.1 hin.2 (fun _ => ⟨fun _ => ?_, fun z => absurd z (by decide)⟩) (fun z => absurd (kHas_mk hO (by omega) hl hc hk) z)⟩) (fun z => absurd hin z)
  have fen : 2 ≤ what → what ≤ 4 → (kSm what of) = (4, 3 * of + (what - 2)) → vp_in ((((3 : Int32) * l1) + nI what) - (2 : Int32)) 36 ∧ Q (σ.1 4 ((((3 : Int32) * l1) + nI what) - (2 : Int32)).toNatClampNeg) σ := by
    intro h2 h4 e
    have e2 : (((3 : Int32) * l1) + nI what) - (2 : Int32) = nI (3 * of + (what - 2)) := by
      rw [hl h2]
      exact n_ix h2
    have := hc h2 h4
    rw [e2]
    refine ⟨k_idx (by omega) (by decide), ?_⟩
    rw [k_cl (by omega)]
    rw [e] at h
    exact h
  have wrk : 5 ≤ what → what ≤ 7 → (kSm what of) = (6, 3 * of + (what - 5)) → vp_in ((((3 : Int32) * l1) + nI what) - (5 : Int32)) 18 ∧ Q (σ.1 6 ((((3 : Int32) * l1) + nI what) - (5 : Int32)).toNatClampNeg) σ := by
    intro h2 h4 e
    have e2 : (((3 : Int32) * l1) + nI what) - (5 : Int32) = nI (3 * of + (what - 5)) := by
      rw [hl (by omega)]
      exact n_ix h2
    have := hk h2
    rw [e2]
    refine ⟨k_idx (by omega) (by decide), ?_⟩
    rw [k_cl (by omega)]
    rw [e] at h
    exact h
  rcases w_cases (show what ≤ 9 by omega) with e | e | e | e | e | e | e | e | e | e <;> subst e
  · exact ⟨fun z => absurd z (by decide), fun _ => ⟨fun z => absurd rfl z, fun _ => h⟩⟩
  · exact ⟨fun z => absurd z (by decide), fun _ => ⟨fun _ => ⟨fun z => absurd rfl z, fun _ => h⟩, fun z => absurd z (by decide)⟩⟩
  · exact ⟨fun z => absurd z (by decide), fun _ => ⟨fun _ => ⟨fun _ => fen (by decide) (by decide) rfl, fun z => absurd z (by decide)⟩, fun z => absurd z (by decide)⟩⟩
  · exact ⟨fun z => absurd z (by decide), fun _ => ⟨fun _ => ⟨fun _ => fen (by decide) (by decide) rfl, fun z => absurd z (by decide)⟩, fun z => absurd z (by decide)⟩⟩
  · exact ⟨fun z => absurd z (by decide), fun _ => ⟨fun _ => ⟨fun _ => fen (by decide) (by decide) rfl, fun z => absurd z (by decide)⟩, fun z => absurd z (by decide)⟩⟩
  · exact ⟨fun _ => ⟨fun z => absurd z (by decide), fun _ => ⟨fun z => absurd z (by decide), fun _ => wrk (by decide) (by decide) rfl⟩⟩, fun z => absurd (by decide) z⟩
  · exact ⟨fun _ => ⟨fun z => absurd z (by decide), fun _ => ⟨fun z => absurd z (by decide), fun _ => wrk (by decide) (by decide) rfl⟩⟩, fun z => absurd (by decide) z⟩
  · exact ⟨fun _ => ⟨fun z => absurd z (by decide), fun _ => ⟨fun z => absurd z (by decide), fun _ => wrk (by decide) (by decide) rfl⟩⟩, fun z => absurd (by decide) z⟩
  · have h8 := hk (by decide)
    have e2 := hl (by decide)
    refine ⟨fun _ => ⟨fun z => absurd z (by decide), fun _ => ⟨fun _ => ⟨?_, ?_⟩, fun z => absurd (by decide) z⟩⟩, fun z => absurd (by decide) z⟩
    · rw [e2]
      exact k_idx (by omega) (by decide)
    · rw [e2, k_cl (by omega)]
      exact h
  · exact absurd hw (by decide)
theorem nf_sl {what of : Nat} {A : kFn} (hw : what ≤ 9) (hc : 2 ≤ what → what ≤ 4 → of < 12) (hk : 5 ≤ what → what ≤ 8 → of < 6) : nf A (kSl what of).1 (kSl what of).2 = A (kSl what of).1 (kSl what of).2 := nf_at (kUse_sl hw hc hk)
theorem nf_draw {A : kFn} {w c : Nat} (hw : w < 6) (hc : c < 12) : sDraw (nf A) w c = sDraw A w c := by
  unfold sDraw
  rw [nf_want hw hc, nf_c (by decide) (by decide) hc]
theorem kSw_8 {what : Nat} (h : what ≤ 8) : kSw what = what := if_neg (by omega)
theorem s_told {tx : List kTxt} {σx σm : kS} {l1 l2 : Int32} (hI : kInv tx σx σm) : wX4_told tx l1 l2 σx (kSim tx σm (wX5_told l1 l2 σm)) := by
  have hI0 := hI
  obtain ⟨a1, a2, a3, a4, a5, a6, a7, a8, a9⟩ := hI
  have hO := nf_ok.mpr a4
  have h6 := a4.works.1
  refine x_has (fun hh => ⟨fun _ => ?_, fun z => absurd z (by decide)⟩) (fun hh => ⟨fun z => absurd rfl z, fun _ => ?_⟩)
  · obtain ⟨i0, i10⟩ := kHas_in hh
    obtain ⟨what, hw, e⟩ := nI_of2 (x := l2) (M := 10) (n := 10) (by decide) (by grind) i10
    subst e
    obtain ⟨of, hl, hc, hk⟩ := kHas_of a4 hw hh
    have hk' : 5 ≤ what → of < sWorks (nf (fx 3 σx)) := fun z => by rw [nf_works]; exact hk z
    refine ⟨fun q9 => ⟨fun q10 => ?_, fun q10 => ?_⟩, fun q9 => ?_⟩
    · have h8 : what ≤ 8 := by
        have n9 : what ≠ 9 := fun z => q9 (by rw [z]; rfl)
        have n10 : what ≠ 10 := fun z => q10 (by rw [z]; rfl)
        omega
      have := x_get (b := 3) (what := what) (of := of) (l2 := l1) (σ := σx) (Q := kSim tx σm (wX5_told l1 (nI what) σm)) (by omega) (fun z _ => hl z) hc (fun z _ => by have := hk z; omega) ?_
      · rw [kSw_8 h8] at this
        exact this
      · unfold kSim
        refine m_told hO a5 h8 hl hc hk' ⟨nf_sl (by omega) hc (fun z _ => by have := hk z; omega), hI0⟩
    · have e : what = 10 := (nI_eq (b := 10) (by omega) (by decide)).mp q10
      subst e
      have h8 := hk (by decide)
      have e1 := hl (by decide)
      subst e1
      refine x_rule a1 a4 (fun T hT eT => x_costs a4 hT h8 (fun s1 f1 o1 => ?_))
      obtain ⟨t, t1, t2⟩ := hO.2.2.2.1
      unfold kSim wX5_told
      refine m_in32 (lo := 0) (hi := 10) (by decide) (by decide) (fun _ => ⟨fun z => absurd z (by decide), fun _ => m_isOf hO a5 (by decide) (by decide) (fun _ => ⟨fun _ => ⟨fun _ => ⟨fun _ => ⟨fun _ => ?_, fun z => absurd z (by decide)⟩, fun z => absurd (by decide) z⟩, fun z => absurd (by decide) z⟩, fun z => absurd z (by decide)⟩) (fun z => absurd (kHas_mk hO (by decide) hl hc hk') z)⟩) (fun z => absurd (by decide) z)
      refine m_costsOf hO a5 (a2.2 t t1) t2 (by rw [nf_works]; exact h8) (fun s2 r2 o2 => ⟨?_, hI0.same o1 f1 o2 r2⟩)
      have et : (fx 3 σx 0 12).toNatClampNeg = t := by
        have h3 := a2.1
        rw [← nf_0 (A := fx 3 σx) (by decide) (by decide), t2, k_cl (by omega)]
      rw [eT, et, nf_cost a4 h8]
    · have e : what = 9 := (nI_eq (b := 9) (by omega) (by decide)).mp q9
      subst e
      have h8 := hk (by decide)
      have e1 := hl (by decide)
      subst e1
      obtain ⟨p, hp, ep⟩ := (a4.2.2.2.2 of h8).2.2.1
      have ep' : σx.1 9 of = nI p := ep
      have e11 : σx.1 3 11 = nI (sWorks (fx 3 σx)) := a4.works.2
      have hin : 0 ≤ nI p ∧ nI p < 12 := ⟨nI_pos' (by omega), nI_lt (b := 12) hp (by decide)⟩
      refine ⟨fun q => absurd q (k_nn (by omega)), fun _ => ⟨fun q => absurd q (by rw [e11]; exact nI_ge h8 (by omega)), fun _ => ⟨k_idx (by omega) (by decide), ?_⟩⟩⟩
      rw [k_cl (by omega), ep']
      refine x_isCell (fun _ => ⟨fun _ => ⟨k_idx (by omega) (by decide), x_draws a4 h8 hp ?_⟩, fun z => absurd z (by decide)⟩) (fun z => absurd hin z)
      unfold kSim wX5_told
      refine m_in32 (lo := 0) (hi := 10) (by decide) (by decide) (fun _ => ⟨fun z => absurd z (by decide), fun _ => m_isOf hO a5 (by decide) (by decide) (fun _ => ⟨fun _ => ⟨fun _ => ⟨fun _ => ⟨fun z => absurd rfl z, fun _ => ?_⟩, fun z => absurd (by decide) z⟩, fun z => absurd (by decide) z⟩, fun z => absurd z (by decide)⟩) (fun z => absurd (kHas_mk hO (by decide) hl hc hk') z)⟩) (fun z => absurd (by decide) z)
      have h8' := hk' (by decide)
      have r3 := (a5.2.2 of h8').2.2.1
      rw [nf_w (by decide) (by decide) (by omega), ep] at r3
      rw [n_31, k_cl (by omega), r3]
      refine ⟨k_idx (by omega) (by decide), m_drawsOf hO a5 h8' hp ⟨nf_draw (by omega) hp, hI0⟩⟩
  · unfold kSim wX5_told
    refine m_in32 (lo := 0) (hi := 10) (by decide) (by decide) (fun i => ⟨fun z => absurd z (by decide), fun _ => m_isOf hO a5 i.1 i.2 (fun z => absurd (kHas_nf.mp z) hh) (fun _ => ⟨fun z => absurd rfl z, fun _ => ⟨rfl, hI0⟩⟩)⟩) (fun _ => ⟨fun _ => ⟨rfl, hI0⟩, fun z => absurd rfl z⟩)
theorem m_mostOf {what : Nat} {Q : Int32 → Prop} (hw : what ≤ 7) (h : Q (kMost what)) : wX5_mostOf (nI what) Q := by
  rcases w_cases (show what ≤ 9 by omega) with e | e | e | e | e | e | e | e | e | e <;> subst e
  · exact ⟨fun z => absurd z (by decide), fun _ => ⟨fun _ => ⟨fun _ => h, fun z => absurd z (by decide)⟩, fun z => absurd z (by decide)⟩⟩
  · exact ⟨fun z => absurd z (by decide), fun _ => ⟨fun z => absurd rfl z, fun _ => h⟩⟩
  · exact ⟨fun z => absurd z (by decide), fun _ => ⟨fun _ => ⟨fun _ => h, fun z => absurd z (by decide)⟩, fun z => absurd z (by decide)⟩⟩
  · exact ⟨fun z => absurd z (by decide), fun _ => ⟨fun _ => ⟨fun _ => h, fun z => absurd z (by decide)⟩, fun z => absurd z (by decide)⟩⟩
  · exact ⟨fun z => absurd z (by decide), fun _ => ⟨fun _ => ⟨fun z => absurd rfl z, fun _ => h⟩, fun z => absurd z (by decide)⟩⟩
  · exact ⟨fun _ => ⟨fun z => absurd rfl z, fun _ => h⟩, fun z => absurd (by decide) z⟩
  · exact ⟨fun _ => ⟨fun _ => ⟨fun z => absurd rfl z, fun _ => h⟩, fun z => absurd z (by decide)⟩, fun z => absurd (by decide) z⟩
  · exact ⟨fun _ => ⟨fun _ => ⟨fun _ => h, fun z => absurd z (by decide)⟩, fun z => absurd z (by decide)⟩, fun z => absurd (by decide) z⟩
  · exact absurd hw (by decide)
  · exact absurd hw (by decide)
theorem x_most {what : Nat} {Q : Int32 → Prop} (hw : what ≤ 8) (h : Q (kMost what)) : wX0_most (nI what) Q := by
  refine ⟨fun q => absurd q (k_nn (by omega)), fun _ => ⟨fun q => absurd q (nI_ge (b := 9) (by omega) (by decide)), fun _ => ⟨k_idx (by omega) (by decide), ?_⟩⟩⟩
  rw [k_cl (by omega)]
  exact h
theorem s_set {tx : List kTxt} {σx σm : kS} {l1 l2 l3 : Int32} (hI : kInv tx σx σm) : wX4_set l1 l2 l3 σx (kSim tx σm (wX5_set l1 l2 l3 σm)) := by
  have hI0 := hI
  obtain ⟨a1, a2, a3, a4, a5, a6, a7, a8, a9⟩ := hI
  have hO := nf_ok.mpr a4
  have h6 := a4.works.1
  have bad1 : ¬ (0 ≤ l1 ∧ l1 ≤ 7) → kSim tx σm (wX5_set l1 l2 l3 σm) (-2 : Int32) σx := by
    intro hb
    unfold kSim wX5_set
    exact m_in32 (lo := 0) (hi := 7) (by decide) (by decide) (fun z => absurd z hb) (fun _ => ⟨fun _ => ⟨rfl, hI0⟩, fun z => absurd rfl z⟩)
  refine ⟨fun q => bad1 (fun z => Int32.not_le.mpr q z.2), fun q => ?_⟩
  have q7 : l1 ≤ 7 := Int32.not_lt.mp q
  refine x_has (fun hh => ⟨fun z => absurd z (by decide), fun _ => ?_⟩) (fun hh => ⟨fun _ => ?_, fun z => absurd rfl z⟩)
  · obtain ⟨i0, i10⟩ := kHas_in hh
    obtain ⟨what, hw, e⟩ := nI_of2 (x := l1) (M := 7) (n := 7) (by decide) (by grind) q7
    subst e
    obtain ⟨of, hl, hc, hk⟩ := kHas_of a4 (by omega) hh
    have hk' : 5 ≤ what → of < sWorks (nf (fx 3 σx)) := fun z => by rw [nf_works]; exact hk z
    have hk6 : 5 ≤ what → what ≤ 8 → of < 6 := fun z _ => by have := hk z; omega
    have go : ∀ R : Int32 → kS → Prop, ((0 ≤ l3 ∧ l3 ≤ kMost what) → wX5_told l2 (nI what) σm (fun r10 s9 => wX5_lays (nI what) l2 l3 s9 (fun s11 => R r10 s11))) → (¬ (0 ≤ l3 ∧ l3 ≤ kMost what) → R (-2) σm) → wX5_set (nI what) l2 l3 σm R := by
      intro R h1 h0
      refine m_in32 (lo := 0) (hi := 7) (by decide) (by decide) (fun _ => ⟨fun z => absurd z (by decide), fun _ => m_isOf hO a5 i0 i10 (fun _ => ⟨fun z => absurd z (by decide), fun _ => m_mostOf hw ?_⟩) (fun z => absurd (kHas_nf.mpr hh) z)⟩) (fun z => absurd ⟨i0, q7⟩ z)
      exact m_in32 (lo := 0) (hi := kMost what) (by decide) rfl (fun z => ⟨fun _ => h1 z, fun z => absurd z (by decide)⟩) (fun z => ⟨fun z => absurd rfl z, fun _ => h0 z⟩)
    refine ⟨fun q3 => ?_, fun q3 => x_most (by omega) ⟨fun q4 => ?_, fun q4 => ?_⟩⟩
    · unfold kSim
      exact go _ (fun z => absurd z.1 (Int32.not_le.mpr q3)) (fun _ => ⟨rfl, hI0⟩)
    · have hv : 0 ≤ l3 ∧ l3 ≤ kMost what := ⟨Int32.not_lt.mp q3, q4⟩
      have hget := x_get (b := 3) (what := what) (of := of) (l2 := l2) (σ := σx) (Q := fun r9 s8 => wX0_put 3 (nI what) l2 l3 s8 (fun s10 => kSim tx σm (wX5_set (nI what) l2 l3 σm) r9 s10)) (by omega) (fun z _ => hl z) hc hk6 ?_
      · rw [kSw_8 (by omega)] at hget
        exact hget
      · have hput := x_put (b := 3) (what := what) (of := of) (l2 := l2) (v := l3) (σ := σx) (Q := fun s10 => kSim tx σm (wX5_set (nI what) l2 l3 σm) (fx 3 σx (kSl what of).1 (kSl what of).2) s10) (by omega) (fun z _ => hl z) hc hk6 ?_
        · rw [kSw_8 (by omega)] at hput
          exact hput
        · intro s1 f1 o1
          unfold kSim
          refine go _ (fun _ => ?_) (fun z => absurd hv z)
          refine m_told hO a5 (by omega) hl hc hk' (m_lays (by omega) (fun z _ => hl z) hc hk6 (fun s2 e2 => ⟨nf_sl (by omega) hc hk6, ?_⟩))
          have hkm : (kSm what of).1 = 0 ∧ ((kSm what of).2 = 7 ∨ (kSm what of).2 = 8) ∨ (kSm what of).1 = 4 ∨ (kSm what of).1 = 6 := by
            rcases w_cases (show what ≤ 9 by omega) with e | e | e | e | e | e | e | e | e | e <;> subst e
            · exact Or.inl ⟨rfl, Or.inl rfl⟩
            · exact Or.inl ⟨rfl, Or.inr rfl⟩
            · exact Or.inr (Or.inl rfl)
            · exact Or.inr (Or.inl rfl)
            · exact Or.inr (Or.inl rfl)
            · exact Or.inr (Or.inr rfl)
            · exact Or.inr (Or.inr rfl)
            · exact Or.inr (Or.inr rfl)
            · exact absurd hw (by decide)
            · exact absurd hw (by decide)
          refine hI0.now o1 ?_ (fun w _ => ?_) ?_ ?_ ?_ ?_
          · rw [e2]
            refine ⟨fun p p0 p4 p5 p6 => kset_off (by omega), fun k k4 k7 k8 k9 k13 hk => ?_⟩
            rcases hkm with ⟨z1, z2⟩ | z | z
            · rw [z1]
              exact kset_ne (by omega)
            · rw [z, kset_off (by decide)]
            · rw [z, kset_off (by decide)]
          · rw [e2, kset_off (by omega)]
          · rw [f1]
            exact a4.put (by omega) hv
          · rw [f1, ← nf_set (kUse_sl (by omega) hc hk6), e2]
            exact mR_put (by omega) a5
          · rw [f1]
            refine kYear_put a6 (by omega) (fun z => ?_)
            rw [z] at hv
            exact hv
          · rw [f1, works_put (by omega)]
            exact Nat.le_refl _
    · unfold kSim
      exact go _ (fun z => absurd z.2 q4) (fun _ => ⟨rfl, hI0⟩)
  · by_cases i0 : 0 ≤ l1
    · unfold kSim wX5_set
      refine m_in32 (lo := 0) (hi := 7) (by decide) (by decide) (fun _ => ⟨fun z => absurd z (by decide), fun _ => m_isOf hO a5 i0 (Int32.le_trans q7 (by decide)) (fun z => absurd (kHas_nf.mp z) hh) (fun _ => ⟨fun _ => ⟨rfl, hI0⟩, fun z => absurd rfl z⟩)⟩) (fun z => absurd ⟨i0, q7⟩ z)
    · exact bad1 (fun z => i0 z.1)
