/-! the two programs side by side: idle -/
def sIdle (A : kFn) (f : Nat → Int32) (k : Int32) : Nat → Nat → Int32
  | _, 0 => -1
  | i, r + 1 => if A 7 i = 1 then (if f i < k then sIdle A f k (i + 1) r else nI i) else sIdle A f k (i + 1) r
theorem x_idleL {tx : List kTxt} {n : Nat} {k : Int32} {σx : kS} {Q : Int32 → kS → Prop} (hn : n ≤ 30) (hE : xE tx σx) (hO : sOk tx.length (fx 3 σx)) (h : ∀ s : kS, xO1 σx s → Q (sIdle (nf (fx 3 σx)) (fun w => sPop (sDry (sRun (sW tx) false 0 n (fset (nf (fx 3 σx)) 7 w 0)))) k 0 (sWorks (fx 3 σx))) s) : ∀ s0 : kS, xO1 σx s0 → wX4_idle_25 tx Q (nI n) k (0 : Int32) s0 := by
  intro s0 o0
  obtain ⟨h6, hn6⟩ := hO.works
  intro P hP
  suffices key : ∀ r i : Nat, i + r = sWorks (fx 3 σx) → ∀ s : kS, xO1 σx s → sIdle (nf (fx 3 σx)) (fun w => sPop (sDry (sRun (sW tx) false 0 n (fset (nf (fx 3 σx)) 7 w 0)))) k i r = sIdle (nf (fx 3 σx)) (fun w => sPop (sDry (sRun (sW tx) false 0 n (fset (nf (fx 3 σx)) 7 w 0)))) k 0 (sWorks (fx 3 σx)) → P s (nI i) from key (sWorks (fx 3 σx)) 0 (by omega) s0 o0 rfl
  intro r
  induction r with
  | zero =>
    intro i hi s o e
    have now : fx 3 s = fx 3 σx := xO1_fx o
    have e11 : s.1 3 11 = nI (sWorks (fx 3 σx)) := by rw [← now]; exact (show sOk tx.length (fx 3 s) by rw [now]; exact hO).works.2
    have ei : i = sWorks (fx 3 σx) := by omega
    refine hP _ _ ⟨fun _ => ?_, fun q => absurd (by rw [e11, ei]; exact Int32.le_refl _) q⟩
    have := h s o
    rw [← e] at this
    exact this
  | succ r ih =>
    intro i hi s o e
    have now : fx 3 s = fx 3 σx := xO1_fx o
    have okn : sOk tx.length (fx 3 s) := by rw [now]; exact hO
    have e11 : s.1 3 11 = nI (sWorks (fx 3 σx)) := by rw [← now]; exact okn.works.2
    refine hP _ _ ⟨fun q => absurd q (by rw [e11]; exact nI_ge (by omega) (by omega)), fun _ => x_goes okn (by omega) ?_⟩
    rw [now]
    have e7 : (nf (fx 3 σx)) 7 i = fx 3 σx 7 i := nf_w (by decide) (by decide) (by omega)
    by_cases g : fx 3 σx 7 i = 1
    · rw [if_pos ⟨by omega, g⟩]
      refine ⟨fun z => absurd z (by decide), fun _ => x_without hn (by omega) (hE.o1 o) okn (fun s2 o2 => x_pop ?_)⟩
      rw [now]
      refine ⟨fun q x ex => ?_, fun q => ?_⟩
      · rw [ex, k_n1]
        refine ih (i + 1) (by omega) s2 (o.tr o2) ?_
        rw [← e]
        refine Eq.symm ((if_pos (by rw [e7]; exact g)).trans (if_pos q))
      · have fin := h s2 (o.tr o2)
        rw [← e] at fin
        rw [show sIdle (nf (fx 3 σx)) (fun w => sPop (sDry (sRun (sW tx) false 0 n (fset (nf (fx 3 σx)) 7 w 0)))) k i (r + 1) = nI i from (if_pos (by rw [e7]; exact g)).trans (if_neg q)] at fin
        exact fin
    · rw [if_neg (fun z => g z.2)]
      refine ⟨fun _ x ex => ?_, fun z => absurd rfl z⟩
      rw [ex, k_n1]
      refine ih (i + 1) (by omega) s o ?_
      rw [← e]
      exact (if_neg (by rw [e7]; exact g)).symm
theorem m_idleL {nt n : Nat} {W : Nat → Nat → (Nat → Int32) → Int32} {k : Int32} {A : kFn} {σm : kS} {Q : Int32 → kS → Prop} (hn : n ≤ 30) (hE : mE W nt σm) (hO : sOk nt A) (hR : mR A σm) (h : ∀ s : kS, mU σm s → Q (sIdle A (fun w => sPop (sDry (sRun W false 0 n (fset A 7 w 0)))) k 0 (sWorks A)) s) : ∀ s0 : kS, mU σm s0 → wX5_idle_26 Q (nI n) k (0 : Int32) s0 := by
  intro s0 o0
  obtain ⟨h6, hn6⟩ := hO.works
  intro P hP
  suffices key : ∀ r i : Nat, i + r = sWorks A → ∀ s : kS, mU σm s → sIdle A (fun w => sPop (sDry (sRun W false 0 n (fset A 7 w 0)))) k i r = sIdle A (fun w => sPop (sDry (sRun W false 0 n (fset A 7 w 0)))) k 0 (sWorks A) → P s (nI i) from key (sWorks A) 0 (by omega) s0 o0 rfl
  intro r
  induction r with
  | zero =>
    intro i hi s o e
    have e13 : s.1 0 13 = nI (sWorks A) := (mU_R o hR).2.1.2.2.2.1.trans hn6
    have ei : i = sWorks A := by omega
    refine hP _ _ ⟨fun _ => ?_, fun q => absurd (by rw [e13, ei]; exact Int32.le_refl _) q⟩
    have := h s o
    rw [← e] at this
    exact this
  | succ r ih =>
    intro i hi s o e
    have hRs := mU_R o hR
    have e13 : s.1 0 13 = nI (sWorks A) := hRs.2.1.2.2.2.1.trans hn6
    refine hP _ _ ⟨fun q => absurd q (by rw [e13]; exact nI_ge (by omega) (by omega)), fun _ => ?_⟩
    rw [n_32, k_cl (by omega), (hRs.2.2 i (by omega)).2.2.2]
    refine ⟨k_idx (by omega) (by decide), fun g x ex => ?_, fun g => m_without hn (by omega) (hE.u o) hO hRs (fun s2 u2 => m_bitsOf sDry_set ⟨fun q x ex => ?_, fun q => ?_⟩)⟩
    · rw [ex, k_n1]
      refine ih (i + 1) (by omega) s o ?_
      rw [← e]
      exact (if_neg g).symm
    · rw [ex, k_n1]
      refine ih (i + 1) (by omega) s2 (o.tr u2) ?_
      rw [← e]
      exact Eq.symm ((if_pos g).trans (if_pos q))
    · have fin := h s2 (o.tr u2)
      rw [← e] at fin
      rw [show sIdle A (fun w => sPop (sDry (sRun W false 0 n (fset A 7 w 0)))) k i (r + 1) = nI i from (if_pos g).trans (if_neg q)] at fin
      exact fin
theorem s_idle {tx : List kTxt} {σx σm : kS} {l1 : Int32} (hI : kInv tx σx σm) : wX4_idle tx l1 σx (kSim tx σm (wX5_idle l1 σm)) := by
  have hI0 := hI
  obtain ⟨a1, a2, a3, a4, a5, a6, a7, a8, a9⟩ := hI
  have hO := nf_ok.mpr a4
  refine x_areYears (fun n hn en => ⟨fun _ => ?_, fun z => absurd z (by decide)⟩) (fun q3 => ⟨fun z => absurd rfl z, fun _ => ?_⟩)
  · subst en
    refine x_with hn a1 a4 (fun s1 o1 => x_pop (x_idleL hn a1 a4 (fun s2 o2 => ?_) s1 o1))
    unfold kSim wX5_idle
    refine m_years (fun _ => ⟨fun _ => m_with hn a2 hO a5 (fun t1 u1 => m_bitsOf sDry_set (m_idleL hn a2 hO a5 (fun t2 u2 => ⟨?_, hI0.u o2 u2⟩) t1 u1)), fun z => absurd z (by decide)⟩) (fun z => absurd (nI_30 hn) z)
    rw [nf_works]
  · unfold kSim wX5_idle
    exact m_years (fun z => absurd z q3) (fun _ => ⟨fun z => absurd rfl z, fun _ => ⟨rfl, hI0⟩⟩)
