/-! the two programs side by side: asks -/
theorem kInv.same {tx : List kTxt} {σx σm σx' σm' : kS} (h : kInv tx σx σm) (hx : xO 3 σx σx') (hf : fx 3 σx' = fx 3 σx) (hm : mO σm σm') (hr : mR (nf (fx 3 σx)) σm') : kInv tx σx' σm' := by
  refine h.now hx hm.n (fun w _ => by rw [hm.1 5 (by decide) (by decide)]) ?_ ?_ ?_ ?_
  · rw [hf]; exact h.2.2.2.1
  · rw [hf]; exact hr
  · rw [hf]; exact h.2.2.2.2.2.1
  · rw [hf]; exact Nat.le_refl _
theorem s_asks {tx : List kTxt} {σx σm : kS} {l1 l2 : Int32} (hI : kInv tx σx σm) : wX4_asks tx l1 l2 σx (kSim tx σm (wX5_asks l1 l2 σm)) := by
  have hI0 := hI
  obtain ⟨a1, a2, a3, a4, a5, a6, a7, a8, a9⟩ := hI
  have hO := nf_ok.mpr a4
  have bad : ¬ (0 ≤ l1 ∧ l1 ≤ 1) → kSim tx σm (wX5_asks l1 l2 σm) (-2 : Int32) σx := by
    intro hb
    unfold kSim wX5_asks
    exact m_in32 (lo := 0) (hi := 1) (by decide) (by decide) (fun z => absurd z hb) (fun _ => ⟨fun _ => ⟨rfl, hI0⟩, fun z => absurd rfl z⟩)
  refine ⟨fun q => bad (by grind), fun q => ⟨fun q2 => bad (by grind), fun q2 => ?_⟩⟩
  obtain ⟨p, hp, e⟩ := nI_of2 (x := l1) (M := 1) (n := 1) (by decide) q (by grind)
  subst e
  have hin : 0 ≤ nI p ∧ nI p ≤ 1 := ⟨nI_pos' (by omega), nI_le (b := 1) hp (by decide)⟩
  refine x_isCell (fun hc => ⟨fun _ => ?_, fun z => absurd z (by decide)⟩) (fun hc => ⟨fun z => absurd rfl z, fun _ => ?_⟩)
  · obtain ⟨c, hc11, e⟩ := nI_of2 (x := l2) (M := 11) (n := 11) (by decide) (by grind) (by grind)
    subst e
    refine x_rule a1 a4 (fun T hT eT => x_says (part := p) (num := sStand (fx 3 σx) c) a4 (by omega) (by omega) (hT p (by omega)) (Or.inl ⟨rfl, rfl⟩) (fun s1 f1 o1 => ?_))
    obtain ⟨t, t1, t2⟩ := hO.2.2.2.1
    unfold kSim wX5_asks
    refine m_in32 (lo := 0) (hi := 1) (by decide) (by decide) (fun _ => ⟨fun z => absurd z (by decide), fun _ => m_isCell (fun _ => ⟨fun z => absurd z (by decide), fun _ => ?_⟩) (fun z => absurd hc z)⟩) (fun z => absurd hin z)
    refine m_standOn hO a5 (m_says (part := p) a5 (by omega) (by omega) (a2.2 t t1) t2 (fun s2 r2 o2 => ⟨?_, hI0.same o1 f1 o2 r2⟩))
    have et : (fx 3 σx 0 12).toNatClampNeg = t := by
      have h3 := a2.1
      rw [← nf_0 (A := fx 3 σx) (by decide) (by decide), t2, k_cl (by omega)]
    rw [eT, et, nf_stand a4, nf_say (by omega)]
  · unfold kSim wX5_asks
    exact m_in32 (lo := 0) (hi := 1) (by decide) (by decide) (fun _ => ⟨fun z => absurd z (by decide), fun _ => m_isCell (fun z => absurd z hc) (fun _ => ⟨fun _ => ⟨rfl, hI0⟩, fun z => absurd rfl z⟩)⟩) (fun z => absurd hin z)
