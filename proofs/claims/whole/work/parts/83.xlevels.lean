/-! the class reads as the pure parser does: its levels -/
theorem x_eitherL {T : Nat → Nat} {N k m d : Nat} {σ : kS} {Q : kS → Prop} (SUB : xLv T N k 1) (hd : 6 * k + 6 - 1 ≤ d) (hN : N ≤ 160) : ∀ (r i : Nat) (c : List Int32 × kVal) (s : kS), r ≤ 160 → 160 - r ≤ i → i ≤ N → xRf σ s → xAt T N i s → s.1 30 8 = nI (m + c.1.length) → xHold (s.1 32) m c.1 → (∀ j : Nat, j < m → s.1 32 j = σ.1 32 j) → m + c.1.length + (N - i) ≤ 160 → xRes T N (pLoop T N opO (pAll T N k 1) r i c) m σ Q → wX1_readEither_7 (wRd d) Q (nI (5 - k)) (nI (160 - r)) s := by
  intro r
  induction r with
  | zero =>
    intro i c s hr hri hi o a l h32 hm hb res P hP
    refine hP _ _ ⟨fun _ => res.2 c rfl s o a l h32 hm, fun q => absurd (Int32.le_refl _) q⟩
  | succ r ih =>
    intro i c s hr hri hi o a l h32 hm hb res P hP
    have hc : lC T N i < 268 := lC_in
    have e3 := a.2.2.1
    refine hP _ _ ⟨fun q => absurd q (nI_ge (b := 160) (by omega) (by decide)), fun _ => ⟨fun q => ?_, fun q => ?_⟩⟩
    · have hn : opO (lC T N i) = none := if_neg (fun z => q (by rw [e3, z]; rfl))
      rw [pLoop_none hn] at res
      exact res.2 c rfl s o a l h32 hm
    · rw [e3] at q
      have hz : lC T N i = 259 := (nI_eq (b := 259) (by omega) (by decide)).mp q
      have hn : opO (lC T N i) = some (-9) := if_pos hz
      rw [pLoop_some hn] at res
      refine x_step SUB hd hi (by omega) a l h32 hb (fun hnone u ou du x ex => ?_) (fun dd hs u ou au lu hu mu hb2 hj1 hj2 x ex => ?_)
      · rw [pB_none hnone] at res
        exact hP _ _ ⟨fun _ => res.1 hnone u (o.tr ou) du, fun _ => ⟨fun _ => res.1 hnone u (o.tr ou) du, fun q => absurd q (du.tok (by decide))⟩⟩
      · rw [pB_some hs] at res
        rw [ex, show nI (160 - (r + 1)) + (1 : Int32) = nI (160 - r) by rw [k_n1, show 160 - (r + 1) + 1 = 160 - r by omega]]
        exact ih _ (pJn (-9) c dd) u (by omega) (by omega) hj2 (o.tr ou) au lu hu (fun j hj => (mu j hj).trans (hm j hj)) hb2 res P hP
theorem x_either {T : Nat → Nat} {N k : Nat} (hN : N ≤ 160) (SUB : xLv T N k 1) : xLv T N k 0 := by
  intro d hd i m σ Q hi a l hb res
  obtain ⟨d, rfl⟩ : ∃ d' : Nat, d = d' + 1 := ⟨d - 1, by omega⟩
  show wX1_readEither (wRd d) (nI (5 - k)) σ Q
  have far := pFar_all (T := T) (N := N) k 1 i hi
  rw [pA_0] at res
  refine SUB d (by omega) i m σ _ hi a l hb ⟨fun hn s os ds P hP => ?_, fun c hs s os as ls hu mu => ?_⟩
  · rw [pB_none hn] at res
    exact hP _ _ ⟨fun _ => res.1 hn s os ds, fun _ => ⟨fun _ => res.1 hn s os ds, fun q => absurd q (ds.tok (by decide))⟩⟩
  · rw [pB_some hs] at res
    obtain ⟨f1, f2⟩ := far.2 c hs
    have f3 := far.1
    exact x_eitherL SUB (by omega) hN 160 _ c s (Nat.le_refl _) (by omega) far.1 os as ls hu mu (by omega) res
theorem x_bothL {T : Nat → Nat} {N k m d : Nat} {σ : kS} {Q : kS → Prop} (SUB : xLv T N k 2) (hd : 6 * k + 6 - 2 ≤ d) (hN : N ≤ 160) : ∀ (r i : Nat) (c : List Int32 × kVal) (s : kS), r ≤ 160 → 160 - r ≤ i → i ≤ N → xRf σ s → xAt T N i s → s.1 30 8 = nI (m + c.1.length) → xHold (s.1 32) m c.1 → (∀ j : Nat, j < m → s.1 32 j = σ.1 32 j) → m + c.1.length + (N - i) ≤ 160 → xRes T N (pLoop T N opA (pAll T N k 2) r i c) m σ Q → wX1_readBoth_7 (wRd d) Q (nI (5 - k)) (nI (160 - r)) s := by
  intro r
  induction r with
  | zero =>
    intro i c s hr hri hi o a l h32 hm hb res P hP
    refine hP _ _ ⟨fun _ => res.2 c rfl s o a l h32 hm, fun q => absurd (Int32.le_refl _) q⟩
  | succ r ih =>
    intro i c s hr hri hi o a l h32 hm hb res P hP
    have hc : lC T N i < 268 := lC_in
    have e3 := a.2.2.1
    refine hP _ _ ⟨fun q => absurd q (nI_ge (b := 160) (by omega) (by decide)), fun _ => ⟨fun q => ?_, fun q => ?_⟩⟩
    · have hn : opA (lC T N i) = none := if_neg (fun z => q (by rw [e3, z]; rfl))
      rw [pLoop_none hn] at res
      exact res.2 c rfl s o a l h32 hm
    · rw [e3] at q
      have hz : lC T N i = 260 := (nI_eq (b := 260) (by omega) (by decide)).mp q
      have hn : opA (lC T N i) = some (-10) := if_pos hz
      rw [pLoop_some hn] at res
      refine x_step SUB hd hi (by omega) a l h32 hb (fun hnone u ou du x ex => ?_) (fun dd hs u ou au lu hu mu hb2 hj1 hj2 x ex => ?_)
      · rw [pB_none hnone] at res
        exact hP _ _ ⟨fun _ => res.1 hnone u (o.tr ou) du, fun _ => ⟨fun _ => res.1 hnone u (o.tr ou) du, fun q => absurd q (du.tok (by decide))⟩⟩
      · rw [pB_some hs] at res
        rw [ex, show nI (160 - (r + 1)) + (1 : Int32) = nI (160 - r) by rw [k_n1, show 160 - (r + 1) + 1 = 160 - r by omega]]
        exact ih _ (pJn (-10) c dd) u (by omega) (by omega) hj2 (o.tr ou) au lu hu (fun j hj => (mu j hj).trans (hm j hj)) hb2 res P hP
theorem x_both {T : Nat → Nat} {N k : Nat} (hN : N ≤ 160) (SUB : xLv T N k 2) : xLv T N k 1 := by
  intro d hd i m σ Q hi a l hb res
  obtain ⟨d, rfl⟩ : ∃ d' : Nat, d = d' + 1 := ⟨d - 1, by omega⟩
  show wX1_readBoth (wRd d) (nI (5 - k)) σ Q
  have far := pFar_all (T := T) (N := N) k 2 i hi
  rw [pA_1] at res
  refine SUB d (by omega) i m σ _ hi a l hb ⟨fun hn s os ds P hP => ?_, fun c hs s os as ls hu mu => ?_⟩
  · rw [pB_none hn] at res
    exact hP _ _ ⟨fun _ => res.1 hn s os ds, fun _ => ⟨fun _ => res.1 hn s os ds, fun q => absurd q (ds.tok (by decide))⟩⟩
  · rw [pB_some hs] at res
    obtain ⟨f1, f2⟩ := far.2 c hs
    have f3 := far.1
    exact x_bothL SUB (by omega) hN 160 _ c s (Nat.le_refl _) (by omega) far.1 os as ls hu mu (by omega) res
theorem x_termL {T : Nat → Nat} {N k m d : Nat} {σ : kS} {Q : kS → Prop} (SUB : xLv T N k 5) (hd : 6 * k + 6 - 5 ≤ d) (hN : N ≤ 160) : ∀ (r i : Nat) (c : List Int32 × kVal) (s : kS), r ≤ 160 → 160 - r ≤ i → i ≤ N → xRf σ s → xAt T N i s → s.1 30 8 = nI (m + c.1.length) → xHold (s.1 32) m c.1 → (∀ j : Nat, j < m → s.1 32 j = σ.1 32 j) → m + c.1.length + (N - i) ≤ 160 → xRes T N (pLoop T N opT (pAll T N k 5) r i c) m σ Q → wX1_readTerm_7 (wRd d) Q (nI (5 - k)) (nI (160 - r)) s := by
  intro r
  induction r with
  | zero =>
    intro i c s hr hri hi o a l h32 hm hb res P hP
    refine hP _ _ ⟨fun _ => res.2 c rfl s o a l h32 hm, fun q => absurd (Int32.le_refl _) q⟩
  | succ r ih =>
    intro i c s hr hri hi o a l h32 hm hb res P hP
    have hc : lC T N i < 268 := lC_in
    have e3 := a.2.2.1
    refine hP _ _ ⟨fun q => absurd q (nI_ge (b := 160) (by omega) (by decide)), fun _ => ⟨fun q => ?_, fun q => ?_⟩⟩
    · have hn : opT (lC T N i) = none := if_neg (fun z => q (by rw [e3, z]; rfl))
      rw [pLoop_none hn] at res
      exact res.2 c rfl s o a l h32 hm
    · rw [e3] at q
      have hz : lC T N i = 42 := (nI_eq (b := 42) (by omega) (by decide)).mp q
      have hn : opT (lC T N i) = some (-15) := if_pos hz
      rw [pLoop_some hn] at res
      refine x_step SUB hd hi (by omega) a l h32 hb (fun hnone u ou du x ex => ?_) (fun dd hs u ou au lu hu mu hb2 hj1 hj2 x ex => ?_)
      · rw [pB_none hnone] at res
        exact hP _ _ ⟨fun _ => res.1 hnone u (o.tr ou) du, fun _ => ⟨fun _ => res.1 hnone u (o.tr ou) du, fun q => absurd q (du.tok (by decide))⟩⟩
      · rw [pB_some hs] at res
        rw [ex, show nI (160 - (r + 1)) + (1 : Int32) = nI (160 - r) by rw [k_n1, show 160 - (r + 1) + 1 = 160 - r by omega]]
        exact ih _ (pJn (-15) c dd) u (by omega) (by omega) hj2 (o.tr ou) au lu hu (fun j hj => (mu j hj).trans (hm j hj)) hb2 res P hP
theorem x_term {T : Nat → Nat} {N k : Nat} (hN : N ≤ 160) (SUB : xLv T N k 5) : xLv T N k 4 := by
  intro d hd i m σ Q hi a l hb res
  obtain ⟨d, rfl⟩ : ∃ d' : Nat, d = d' + 1 := ⟨d - 1, by omega⟩
  show wX1_readTerm (wRd d) (nI (5 - k)) σ Q
  have far := pFar_all (T := T) (N := N) k 5 i hi
  rw [pA_4] at res
  refine SUB d (by omega) i m σ _ hi a l hb ⟨fun hn s os ds P hP => ?_, fun c hs s os as ls hu mu => ?_⟩
  · rw [pB_none hn] at res
    exact hP _ _ ⟨fun _ => res.1 hn s os ds, fun _ => ⟨fun _ => res.1 hn s os ds, fun q => absurd q (ds.tok (by decide))⟩⟩
  · rw [pB_some hs] at res
    obtain ⟨f1, f2⟩ := far.2 c hs
    have f3 := far.1
    exact x_termL SUB (by omega) hN 160 _ c s (Nat.le_refl _) (by omega) far.1 os as ls hu mu (by omega) res
theorem x_sumL {T : Nat → Nat} {N k m d : Nat} {σ : kS} {Q : kS → Prop} (SUB : xLv T N k 4) (hd : 6 * k + 6 - 4 ≤ d) (hN : N ≤ 160) : ∀ (r i : Nat) (c : List Int32 × kVal) (s : kS), r ≤ 160 → 160 - r ≤ i → i ≤ N → xRf σ s → xAt T N i s → s.1 30 8 = nI (m + c.1.length) → xHold (s.1 32) m c.1 → (∀ j : Nat, j < m → s.1 32 j = σ.1 32 j) → m + c.1.length + (N - i) ≤ 160 → xRes T N (pLoop T N opS (pAll T N k 4) r i c) m σ Q → wX1_readSum_7 (wRd d) Q (nI (5 - k)) (nI (160 - r)) s := by
  intro r
  induction r with
  | zero =>
    intro i c s hr hri hi o a l h32 hm hb res P hP
    refine hP _ _ ⟨fun _ => res.2 c rfl s o a l h32 hm, fun q => absurd (Int32.le_refl _) q⟩
  | succ r ih =>
    intro i c s hr hri hi o a l h32 hm hb res P hP
    have hc : lC T N i < 268 := lC_in
    have e3 := a.2.2.1
    have go : ∀ op : Int32, opS (lC T N i) = some op → lC T N i ≠ 0 → wX1_readSum_48 (wRd d) Q P (nI (5 - k)) (nI (160 - (r + 1))) op s := by
      intro op hn hne
      rw [pLoop_some hn] at res
      refine x_step SUB hd hi hne a l h32 hb (fun hnone u ou du x ex => ?_) (fun dd hs u ou au lu hu mu hb2 hj1 hj2 x ex => ?_)
      · rw [pB_none hnone] at res
        exact hP _ _ ⟨fun _ => res.1 hnone u (o.tr ou) du, fun _ => ⟨fun q => absurd q (du.tok (by decide)), fun _ => ⟨fun _ => res.1 hnone u (o.tr ou) du, fun q => absurd q (du.tok (by decide))⟩⟩⟩
      · rw [pB_some hs] at res
        rw [ex, show nI (160 - (r + 1)) + (1 : Int32) = nI (160 - r) by rw [k_n1, show 160 - (r + 1) + 1 = 160 - r by omega]]
        exact ih _ (pJn op c dd) u (by omega) (by omega) hj2 (o.tr ou) au lu hu (fun j hj => (mu j hj).trans (hm j hj)) hb2 res P hP
    have go32 : lC T N i = 43 ∨ lC T N i = 45 → wX1_readSum_32 (wRd d) Q P (nI (5 - k)) (nI (160 - (r + 1))) s := by
      intro hz
      refine ⟨fun q => go _ ?_ (by omega), fun q => go _ ?_ (by omega)⟩
      · rcases hz with z | z
        · exact absurd (by rw [e3, z]; rfl) q
        · rw [z]
          rfl
      · rw [e3] at q
        have z := (nI_eq (b := 43) (by omega) (by decide)).mp q
        rw [z]
        rfl
    refine hP _ _ ⟨fun q => absurd q (nI_ge (b := 160) (by omega) (by decide)), fun _ => ⟨fun q => ?_, fun q => ⟨fun q2 => ?_, fun q2 => ?_⟩⟩⟩
    · rw [e3] at q
      exact go32 (Or.inl ((nI_eq (b := 43) (by omega) (by decide)).mp q))
    · have n1 : ¬ lC T N i = 43 := fun z => q (by rw [e3, z]; rfl)
      have n2 : ¬ lC T N i = 45 := fun z => q2 (by rw [e3, z]; rfl)
      have hn : opS (lC T N i) = none := (if_neg n1).trans (if_neg n2)
      rw [pLoop_none hn] at res
      exact res.2 c rfl s o a l h32 hm
    · rw [e3] at q2
      exact go32 (Or.inr ((nI_eq (b := 45) (by omega) (by decide)).mp q2))
theorem x_sum {T : Nat → Nat} {N k : Nat} (hN : N ≤ 160) (SUB : xLv T N k 4) : xLv T N k 3 := by
  intro d hd i m σ Q hi a l hb res
  obtain ⟨d, rfl⟩ : ∃ d' : Nat, d = d' + 1 := ⟨d - 1, by omega⟩
  show wX1_readSum (wRd d) (nI (5 - k)) σ Q
  have far := pFar_all (T := T) (N := N) k 4 i hi
  rw [pA_3] at res
  refine SUB d (by omega) i m σ _ hi a l hb ⟨fun hn s os ds P hP => ?_, fun c hs s os as ls hu mu => ?_⟩
  · rw [pB_none hn] at res
    exact hP _ _ ⟨fun _ => res.1 hn s os ds, fun _ => ⟨fun q => absurd q (ds.tok (by decide)), fun _ => ⟨fun _ => res.1 hn s os ds, fun q => absurd q (ds.tok (by decide))⟩⟩⟩
  · rw [pB_some hs] at res
    obtain ⟨f1, f2⟩ := far.2 c hs
    have f3 := far.1
    exact x_sumL SUB (by omega) hN 160 _ c s (Nat.le_refl _) (by omega) far.1 os as ls hu mu (by omega) res
theorem pCmp_none {T : Nat → Nat} {N i : Nat} {sum : Nat → pRs} {c : List Int32 × kVal} (h1 : (sum i).2 = some c) (h2 : opN (lC T N (sum i).1) = none) : pCmp T N sum i = ((sum i).1, some c) := by
  unfold pCmp
  rw [pB_some h1]
  show (match opN (lC T N (sum i).1) with | none => ((sum i).1, some c) | some o => pB (sum (lE T N (sum i).1)) (fun k d => (k, some (pJn o c d)))) = _
  rw [h2]
theorem pCmp_some {T : Nat → Nat} {N i : Nat} {sum : Nat → pRs} {c : List Int32 × kVal} {o : Int32} (h1 : (sum i).2 = some c) (h2 : opN (lC T N (sum i).1) = some o) : pCmp T N sum i = pB (sum (lE T N (sum i).1)) (fun k d => (k, some (pJn o c d))) := by
  unfold pCmp
  rw [pB_some h1]
  show (match opN (lC T N (sum i).1) with | none => ((sum i).1, some c) | some o => pB (sum (lE T N (sum i).1)) (fun k d => (k, some (pJn o c d)))) = _
  rw [h2]
theorem pA_2c {T : Nat → Nat} {N k i : Nat} (h : ¬ (lC T N i = 261 ∧ ¬ k = 0)) : pAll T N k 2 i = pCmp T N (pAll T N k 3) i := by
  cases k with
  | zero => exact if_neg (fun z => absurd z.2 (by decide))
  | succ k => exact if_neg (fun z => h ⟨z.1, by omega⟩)
theorem pA_2n {T : Nat → Nat} {N k i : Nat} (h : lC T N i = 261) : pAll T N (k + 1) 2 i = pB (pAll T N k 2 (lE T N i)) (fun j d => (j, some (pTn (-7) d))) := if_pos ⟨h, rfl⟩
theorem x_not {T : Nat → Nat} {N k : Nat} (hk : k ≤ 5) (hN : N ≤ 160) (SUB : xLv T N k 3) (UP : ∀ k' : Nat, k = k' + 1 → xLv T N k' 2) : xLv T N k 2 := by
  intro d hd i m σ Q hi a l hb res
  obtain ⟨d, rfl⟩ : ∃ d' : Nat, d = d' + 1 := ⟨d - 1, by omega⟩
  show wX1_readNot (wRd d) (nI (5 - k)) σ Q
  have hc : lC T N i < 268 := lC_in
  have e3 := a.2.2.1
  have far := pFar_all (T := T) (N := N) k 3 i hi
  have cmp : ¬ (lC T N i = 261 ∧ ¬ k = 0) → wX1_readNot_33 (wRd d) Q (nI (5 - k)) σ := by
    intro hno
    rw [pA_2c hno] at res
    refine SUB d (by omega) i m σ _ hi a l hb ⟨fun hn s os ds => ?_, fun c hs s os as ls hu mu => ?_⟩
    · have e : pCmp T N (pAll T N k 3) i = pAll T N k 3 i := pB_none hn
      rw [e] at res
      exact ⟨fun q => absurd q (ds.tok (by decide)), fun _ => ⟨fun _ => res.1 hn s os ds, fun q => absurd q (ds.tok (by decide))⟩⟩
    · obtain ⟨f1, f2⟩ := far.2 c hs
      have f3 := far.1
      have hc2 : lC T N (pAll T N k 3 i).1 < 268 := lC_in
      have s3 := as.2.2.1
      have go : ∀ op : Int32, opN (lC T N (pAll T N k 3 i).1) = some op → lC T N (pAll T N k 3 i).1 ≠ 0 → wX1_readNot_72 (wRd d) Q (nI (5 - k)) op s := by
        intro op ho hne
        rw [pCmp_some hs ho] at res
        refine x_step SUB (by omega) f3 hne as ls hu (by omega) (fun hnone u ou du => ?_) (fun dd hs2 u ou au lu hu2 mu2 hb2 hj1 hj2 => ?_)
        · rw [pB_none hnone] at res
          exact res.1 hnone u (os.tr ou) du
        · rw [pB_some hs2] at res
          exact res.2 (pJn op c dd) rfl u (os.tr ou) au lu hu2 (fun j hj => (mu2 j hj).trans (mu j hj))
      have go56 : lC T N (pAll T N k 3 i).1 = 60 ∨ lC T N (pAll T N k 3 i).1 = 61 → wX1_readNot_56 (wRd d) Q (nI (5 - k)) s := by
        intro hz
        refine ⟨fun q => go _ ?_ (by omega), fun q => go _ ?_ (by omega)⟩
        · rcases hz with z | z
          · exact absurd (by rw [s3, z]; rfl) q
          · rw [z]
            rfl
        · rw [s3] at q
          have z := (nI_eq (b := 60) (by omega) (by decide)).mp q
          rw [z]
          rfl
      refine ⟨fun q => ?_, fun q => ⟨fun q2 => ?_, fun q2 => ?_⟩⟩
      · rw [s3] at q
        exact go56 (Or.inl ((nI_eq (b := 60) (by omega) (by decide)).mp q))
      · have n1 : ¬ lC T N (pAll T N k 3 i).1 = 60 := fun z => q (by rw [s3, z]; rfl)
        have n2 : ¬ lC T N (pAll T N k 3 i).1 = 61 := fun z => q2 (by rw [s3, z]; rfl)
        rw [pCmp_none hs ((if_neg n1).trans (if_neg n2))] at res
        exact res.2 c rfl s os as ls hu mu
      · rw [s3] at q2
        exact go56 (Or.inr ((nI_eq (b := 61) (by omega) (by decide)).mp q2))
  refine ⟨fun q => cmp (fun z => q (by rw [e3, z.1]; rfl)), fun q => ⟨fun q5 => cmp (fun z => ?_), fun q5 => ?_⟩⟩
  · have := (nI_leI (a := 5) (by decide) (by omega)).mp q5
    omega
  · have hz : lC T N i = 261 := by
      rw [e3] at q
      exact (nI_eq (b := 261) (by omega) (by decide)).mp q
    obtain ⟨k', rfl⟩ : ∃ k' : Nat, k = k' + 1 := ⟨k - 1, by
      have : ¬ 5 ≤ 5 - k := fun z => q5 (nI_le (a := 5) z (by omega))
      omega⟩
    rw [show nI (5 - (k' + 1)) + (1 : Int32) = nI (5 - k') by rw [k_n1, show 5 - (k' + 1) + 1 = 5 - k' by omega]]
    rw [pA_2n hz] at res
    refine x_step (c := []) (UP k' rfl) (by omega) hi (by omega) a l trivial hb (fun hnone u ou du => ?_) (fun dd hs2 u ou au lu hu2 mu2 hb2 hj1 hj2 => ?_)
    · rw [pB_none hnone] at res
      exact res.1 hnone u ou du
    · rw [pB_some hs2] at res
      exact res.2 (pTn (-7) dd) rfl u ou au lu hu2 mu2
theorem pO_bad {T : Nat → Nat} {N k i : Nat} (h1 : ¬ lC T N i = 2) (h2 : ¬ 262 ≤ lC T N i) (h3 : ¬ (lC T N i = 45 ∧ ¬ k = 0)) (h4 : ¬ (lC T N i = 40 ∧ ¬ k = 0)) : pAll T N k 5 i = pBad T N i := by
  cases k with
  | zero => exact (if_neg h1).trans ((if_neg h2).trans ((if_neg (fun z => absurd z.2 (by decide))).trans (if_neg (fun z => absurd z.2 (by decide)))))
  | succ k => exact (if_neg h1).trans ((if_neg h2).trans ((if_neg (fun z => h3 ⟨z.1, by omega⟩)).trans (if_neg (fun z => h4 ⟨z.1, by omega⟩))))
theorem pO_num {T : Nat → Nat} {N k i : Nat} (h1 : lC T N i = 2) : pAll T N k 5 i = (lE T N i, some ([nI (lA T N i)], fun _ => nI (lA T N i))) := by
  cases k with
  | zero => exact if_pos h1
  | succ k => exact if_pos h1
theorem pO_name {T : Nat → Nat} {N k i : Nat} (h1 : 262 ≤ lC T N i) : pAll T N k 5 i = (lE T N i, some ([kNm (lC T N i)], fun env => sName env (kNm (lC T N i)))) := by
  cases k with
  | zero => exact (if_neg (by omega)).trans (if_pos h1)
  | succ k => exact (if_neg (by omega)).trans (if_pos h1)
theorem pO_minus {T : Nat → Nat} {N k i : Nat} (h : lC T N i = 45) : pAll T N (k + 1) 5 i = pB (pAll T N k 5 (lE T N i)) (fun j d => (j, some (pTn (-8) d))) := (if_neg (by omega)).trans ((if_neg (by omega)).trans (if_pos ⟨h, rfl⟩))
theorem pO_paren {T : Nat → Nat} {N k i : Nat} (h : lC T N i = 40) : pAll T N (k + 1) 5 i = pB (pAll T N k 0 (lE T N i)) (fun j d => if lC T N j = 41 then (lE T N j, some d) else pBad T N j) := (if_neg (by omega)).trans ((if_neg (by omega)).trans ((if_neg (by omega)).trans (if_pos ⟨h, rfl⟩)))
theorem x_one {T : Nat → Nat} {N k : Nat} (hk : k ≤ 5) (hN : N ≤ 160) (UP5 : ∀ k' : Nat, k = k' + 1 → xLv T N k' 5) (UP0 : ∀ k' : Nat, k = k' + 1 → xLv T N k' 0) : xLv T N k 5 := by
  intro d hd i m σ Q hi a l hb res
  obtain ⟨d, rfl⟩ : ∃ d' : Nat, d = d' + 1 := ⟨d - 1, by omega⟩
  show wX1_readOne (wRd d) (nI (5 - k)) σ Q
  have hc : lC T N i < 268 := lC_in
  have e3 := a.2.2.1
  obtain ⟨w1, w2, w3⟩ := lE_in (T := T) hi
  have alone : ∀ v : Int32, ∀ val : kVal, lC T N i ≠ 0 → pAll T N k 5 i = (lE T N i, some ([v], val)) → wX1_emit v σ (fun s8 => wX1_next s8 (fun s9 => Q s9)) := by
    intro v val hne e
    rw [e] at res
    have w3 := w3 hne
    refine x_emit l (by omega) (fun s es => ?_)
    have os : xRf σ s := by rw [es]; exact xRf.set32.tr (xRf.set (by omega))
    have as : xAt T N i s := by
      obtain ⟨a1, a2, a3, a4, a5, a6⟩ := a
      have z : ∀ q : Nat, q ≠ 8 → s.1 30 q = σ.1 30 q := fun q hq => by rw [es, kset_ne hq, kset_off (by decide)]
      refine ⟨a1.rf os, ?_, ?_, ?_, ?_, fun y => ?_⟩
      · rw [z 6 (by decide)]; exact a2
      · rw [z 3 (by decide)]; exact a3
      · rw [z 4 (by decide)]; exact a4
      · rw [z 2 (by decide)]; exact a5
      · rw [z 5 (by decide)]; exact a6 y
    refine x_nextA hi as (fun u ou au => res.2 ([v], val) rfl u (os.tr ou.r) au ?_ ⟨?_, trivial⟩ (fun j hj => ?_))
    · rw [ou.2.1 8 (by decide) (by decide) (by decide) (by decide), es, kset_at]
      rfl
    · rw [ou.1 32 (by decide), es, kset_off (by decide), kset_at]
    · rw [ou.1 32 (by decide), es, kset_off (by decide), kset_ne (by omega)]
  have bad : pAll T N k 5 i = pBad T N i → wX1_readOne_122 (wRd d) Q σ := by
    intro e
    rw [e] at res
    exact x_fail hi a (by omega) l (fun s os ds => res.1 rfl s os ds)
  have kz : (5 : Int32) ≤ nI (5 - k) → k = 0 := fun q => by
    have := (nI_leI (a := 5) (by decide) (by omega)).mp q
    omega
  have kp : ¬ (5 : Int32) ≤ nI (5 - k) → ∃ k' : Nat, k = k' + 1 := fun q => ⟨k - 1, by
    have : ¬ 5 ≤ 5 - k := fun z => q (nI_le (a := 5) z (by omega))
    omega⟩
  have h88 : ¬ lC T N i = 2 → ¬ 262 ≤ lC T N i → (lC T N i = 45 → k = 0) → wX1_readOne_88 (wRd d) Q (nI (5 - k)) σ := by
    intro n1 n2 n3
    refine ⟨fun q => bad (pO_bad n1 n2 (fun z => z.2 (n3 z.1)) (fun z => q (by rw [e3, z.1]; rfl))), fun q => ⟨fun q5 => bad (pO_bad n1 n2 (fun z => z.2 (n3 z.1)) (fun z => z.2 (kz q5))), fun q5 => ?_⟩⟩
    obtain ⟨k', rfl⟩ := kp q5
    have hz : lC T N i = 40 := by
      rw [e3] at q
      exact (nI_eq (b := 40) (by omega) (by decide)).mp q
    have w3 := w3 (by omega)
    rw [show nI (5 - (k' + 1)) + (1 : Int32) = nI (5 - k') by rw [k_n1, show 5 - (k' + 1) + 1 = 5 - k' by omega]]
    rw [pO_paren hz] at res
    have far := pFar_all (T := T) (N := N) k' 0 (lE T N i) w2
    refine x_nextA hi a (fun s14 o14 a14 => UP0 k' rfl d (by omega) (lE T N i) m s14 _ w2 a14 ?_ (by omega) ⟨fun hn u ou du => ?_, fun dd hs u ou au lu hu mu => ?_⟩)
    · rw [o14.2.1 8 (by decide) (by decide) (by decide) (by decide)]
      exact l
    · rw [pB_none hn] at res
      exact x_expectD (w := 41) du (by decide) (by decide) (res.1 hn u (o14.r.tr ou) du)
    · rw [pB_some hs] at res
      obtain ⟨f1, f2⟩ := far.2 dd hs
      have f3 := far.1
      refine x_expect (w := 41) f3 au (by decide) (by omega) lu (fun z v ov av => ?_) (fun z v ov dv => ?_)
      · rw [if_pos z] at res
        refine res.2 dd rfl v (o14.r.tr (ou.tr ov.r)) av ?_ ?_ (fun j hj => ?_)
        · rw [ov.2.1 8 (by decide) (by decide) (by decide) (by decide)]
          exact lu
        · rw [ov.1 32 (by decide)]
          exact hu
        · rw [ov.1 32 (by decide), mu j hj, o14.1 32 (by decide)]
      · rw [if_neg z] at res
        exact res.1 rfl v (o14.r.tr (ou.tr ov)) dv
  refine ⟨fun q2 => ⟨fun q262 => ⟨fun q45 => ?_, fun q45 => ⟨fun q5 => ?_, fun q5 => ?_⟩⟩, fun q262 => ?_⟩, fun q2 => ?_⟩
  · rw [e3] at q262
    have n2 := (nI_ltI (b := 262) (by omega) (by decide)).mp q262
    exact h88 (fun z => q2 (by rw [e3, z]; rfl)) (by omega) (fun z => absurd (by rw [e3, z]; rfl) q45)
  · rw [e3] at q262
    have n2 := (nI_ltI (b := 262) (by omega) (by decide)).mp q262
    exact h88 (fun z => q2 (by rw [e3, z]; rfl)) (by omega) (fun _ => kz q5)
  · obtain ⟨k', rfl⟩ := kp q5
    have hz : lC T N i = 45 := by
      rw [e3] at q45
      exact (nI_eq (b := 45) (by omega) (by decide)).mp q45
    rw [show nI (5 - (k' + 1)) + (1 : Int32) = nI (5 - k') by rw [k_n1, show 5 - (k' + 1) + 1 = 5 - k' by omega]]
    rw [pO_minus hz] at res
    refine x_step (c := []) (UP5 k' rfl) (by omega) hi (by omega) a l trivial hb (fun hnone u ou du => ?_) (fun dd hs2 u ou au lu hu2 mu2 hb2 hj1 hj2 => ?_)
    · rw [pB_none hnone] at res
      exact res.1 hnone u ou du
    · rw [pB_some hs2] at res
      exact res.2 (pTn (-8) dd) rfl u ou au lu hu2 mu2
  · have hz : 262 ≤ lC T N i := by
      rw [e3] at q262
      rcases Nat.lt_or_ge (lC T N i) 262 with z | z
      · exact absurd (nI_lt (b := 262) z (by decide)) q262
      · exact z
    have e := pO_name (T := T) (N := N) (k := k) hz
    rw [e3]
    exact alone _ _ (by omega) e
  · have hz : lC T N i = 2 := by
      rw [e3] at q2
      exact (nI_eq (b := 2) (by omega) (by decide)).mp q2
    have e := pO_num (T := T) (N := N) (k := k) hz
    rw [a.2.2.2.2.2 hz]
    exact alone _ _ (by omega) e
theorem x_all {T : Nat → Nat} {N : Nat} (hN : N ≤ 160) : ∀ k : Nat, k ≤ 5 → xLv T N k 5 ∧ xLv T N k 2 ∧ xLv T N k 0 := by
  have up : ∀ k : Nat, k ≤ 5 → (∀ k' : Nat, k = k' + 1 → xLv T N k' 5 ∧ xLv T N k' 2 ∧ xLv T N k' 0) → xLv T N k 5 ∧ xLv T N k 2 ∧ xLv T N k 0 := by
    intro k hk h
    have h5 := x_one hk hN (fun k' e => (h k' e).1) (fun k' e => (h k' e).2.2)
    have h2 := x_not hk hN (x_sum hN (x_term hN h5)) (fun k' e => (h k' e).2.1)
    exact ⟨h5, h2, x_either hN (x_both hN h2)⟩
  intro k
  induction k with
  | zero => exact fun hk => up 0 hk (fun k' e => absurd e (by omega))
  | succ k ih =>
    intro hk
    refine up (k + 1) hk (fun k' e => ?_)
    have : k' = k := by omega
    subst this
    exact ih (by omega)
