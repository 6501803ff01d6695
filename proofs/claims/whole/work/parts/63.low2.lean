/-! the two programs side by side: low, of the reference -/
theorem m_lowL {nt n : Nat} {W : Nat → Nat → (Nat → Int32) → Int32} {k : Int32} {A : kFn} {σm : kS} {Q : Int32 → kS → Prop} (hn : n ≤ 30) (hE : mE W nt σm) (hO : sOk nt A) (hR : mR A σm) (h : ∀ s : kS, mU σm s → Q (sLow (fun r => sPop (sDry (sRun W false 0 n (fset A 0 8 (nI r))))) k 100) s) : wX5_low_39 Q (nI n) k (σm.1 0 7) (-1 : Int32) (99 : Int32) σm := by
  have same : mU σm (kset σm 0 7 (σm.1 0 7)) := by
    refine ⟨fun p p0 _ _ _ _ => kset_off p0, fun j _ _ _ => ?_, fun j _ => by rw [kset_off (by decide)]⟩
    by_cases e : j = 7
    · subst e
      rw [kset_at]
    · rw [kset_ne e]
  intro P hP
  suffices key : ∀ m : Nat, m ≤ 100 → ∀ s : kS, mU σm (kset s 0 7 (σm.1 0 7)) → sLow (fun r => sPop (sDry (sRun W false 0 n (fset A 0 8 (nI r))))) k m = sLow (fun r => sPop (sDry (sRun W false 0 n (fset A 0 8 (nI r))))) k 100 → P s (-1) (nI m - 1) from key 100 (Nat.le_refl _) σm same rfl
  intro m
  induction m with
  | zero =>
    intro _ s o e
    refine hP _ _ _ ⟨fun _ s15 e15 => ?_, fun q => absurd (by decide) q⟩
    rw [e15]
    have := h _ o
    rw [← e] at this
    exact this
  | succ r ih =>
    intro hm s o e
    rw [nI_pred]
    refine hP _ _ _ ⟨fun q => absurd q (k_nn (by omega)), fun _ => ⟨fun z => absurd rfl z, fun _ s8 e8 => ?_⟩⟩
    have r8 : mR (fset A 0 8 (nI r)) s8 := by
      have := k_river (v := nI r) (mU_R o hR)
      rw [kset_kset] at this
      rw [e8]
      exact this
    have E8 : mE W nt s8 := by
      have := hE.u o
      refine ⟨this.1, fun t ht => ?_⟩
      have h2 := this.2 t ht
      rw [kset_off (by decide), kset_off (by decide)] at h2
      rw [e8, kset_off (by decide), kset_off (by decide)]
      exact h2
    refine m_runs (d := false) hn rfl E8 (hO.set8 ⟨nI_pos' (by omega), nI_le (b := 99) (by omega) (by decide)⟩) r8 (fun s9 u9 _ e33 _ _ => ?_)
    have o9 : mU σm (kset s9 0 7 (σm.1 0 7)) := mU_r o (by rw [← e8]; exact u9)
    rw [e33]
    refine m_bitsOf sDry_set ⟨fun q x ex => ?_, fun q x ex => ?_⟩
    · rw [ex, k_m1' r]
      refine ih (by omega) s9 o9 ?_
      rw [← e]
      exact (if_pos q).symm
    · have fin := h _ o9
      rw [← e] at fin
      rw [show sLow (fun r => sPop (sDry (sRun W false 0 n (fset A 0 8 (nI r))))) k (r + 1) = nI r from if_neg q] at fin
      refine hP _ _ _ ⟨fun _ s15 e15 => by rw [e15]; exact fin, fun _ => ⟨fun _ s15 e15 => by rw [e15]; exact fin, fun z => absurd z (nI_nm1 (by omega))⟩⟩
theorem s_low {tx : List kTxt} {σx σm : kS} {l1 l2 : Int32} (hI : kInv tx σx σm) : wX4_low tx l1 l2 σx (kSim tx σm (wX5_low l1 l2 σm)) := by
  have hI0 := hI
  obtain ⟨a1, a2, a3, a4, a5, a6, a7, a8, a9⟩ := hI
  refine x_areYears (fun n hn en => ⟨fun q => absurd q (by decide), fun _ => ⟨fun q => ?_, fun q => ⟨fun q2 => ?_, fun q2 => ?_⟩⟩⟩) (fun q => ⟨fun _ => ?_, fun z => absurd rfl z⟩)
  · subst en
    unfold kSim wX5_low
    exact m_years (fun _ => ⟨fun z => absurd z (by decide), fun _ => m_in32 (lo := 1) (hi := 12) (by decide) (by decide) (fun z => absurd z.1 (by grind)) (fun _ => ⟨fun z => absurd rfl z, fun _ => ⟨rfl, hI0⟩⟩)⟩) (fun z => absurd (nI_30 hn) z)
  · subst en
    refine x_lowL hn a1 a4 (fun s1 o1 => ?_)
    unfold kSim wX5_low
    refine m_years (fun _ => ⟨fun z => absurd z (by decide), fun _ => m_in32 (lo := 1) (hi := 12) (by decide) (by decide) (fun _ => ⟨fun _ x5 e5 => ?_, fun z => absurd z (by decide)⟩) (fun z => absurd (by grind) z)⟩) (fun z => absurd (nI_30 hn) z)
    rw [e5]
    exact m_lowL hn a2 (nf_ok.mpr a4) a5 (fun s2 u2 => ⟨rfl, hI0.u o1 u2⟩)
  · subst en
    unfold kSim wX5_low
    exact m_years (fun _ => ⟨fun z => absurd z (by decide), fun _ => m_in32 (lo := 1) (hi := 12) (by decide) (by decide) (fun z => absurd z.2 (by grind)) (fun _ => ⟨fun z => absurd rfl z, fun _ => ⟨rfl, hI0⟩⟩)⟩) (fun z => absurd (nI_30 hn) z)
  · unfold kSim wX5_low
    exact m_years (fun z => absurd z q) (fun _ => ⟨fun _ => ⟨rfl, hI0⟩, fun z => absurd rfl z⟩)
