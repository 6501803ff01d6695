/-! the two programs side by side: force, feed -/
theorem sOk.mono {nt nt' : Nat} {A : kFn} (h : sOk nt A) (hn : nt ≤ nt') : sOk nt' A := by
  obtain ⟨a, b, c, ⟨t, h1, h2⟩, e⟩ := h
  exact ⟨a, b, c, ⟨t, by omega, h2⟩, e⟩
theorem sOk.set12 {nt t : Nat} {A : kFn} (h : sOk nt A) (ht : t < nt) : sOk nt (fset A 0 12 (nI t)) := by
  obtain ⟨a, b, c, d, e⟩ := h
  have hw : sWorks (fset A 0 12 (nI t)) = sWorks A := by
    unfold sWorks
    rw [fset_ne (by decide)]
  refine ⟨a, b, c, ⟨t, ht, fset_at⟩, fun w hw2 => ?_⟩
  rw [hw] at hw2
  exact e w hw2
theorem k_rule {A : kFn} {σ : kS} {v : Int32} (h : mR A σ) : mR (fset A 0 12 v) (kset σ 0 4 v) := by
  have hw : sWorks (fset A 0 12 v) = sWorks A := by
    unfold sWorks
    rw [fset_ne (by decide)]
  obtain ⟨a, ⟨b1, b2, b3, b4, b5⟩, d⟩ := h
  refine ⟨fun x hx => ?_, ⟨?_, ?_, ?_, ?_, ?_⟩, fun w hw2 => ?_⟩
  · rw [kset_off (by decide)]
    exact a x hx
  · rw [kset_ne (by decide)]; exact b1
  · rw [kset_ne (by decide)]; exact b2
  · rw [kset_ne (by decide)]; exact b3
  · rw [kset_ne (by decide)]; exact b4
  · rw [kset_at]
    rfl
  · rw [kset_off (by decide), kset_off (by decide)]
    rw [hw] at hw2
    exact d w hw2
theorem s_force {tx : List kTxt} {σx σm : kS} {l1 : Int32} (hI : kInv tx σx σm) : wX4_force l1 σx (kSim tx σm (wX5_force l1 σm)) := by
  have hI0 := hI
  obtain ⟨a1, a2, a3, a4, a5, a6, a7, a8, a9⟩ := hI
  have hl := a1.2.2.1
  have hl0 := a1.2.1
  have eh : σm.1 0 3 - (1 : Int32) = nI (tx.length - 1) := by
    rw [a3, show tx.length = (tx.length - 1) + 1 by omega, nI_pred]
    rfl
  refine ⟨fun q => ?_, fun q => ⟨fun q2 x3 e3 s4 e4 => ?_, fun q2 => ?_⟩⟩
  · unfold kSim wX5_force
    exact m_in32 (lo := 0) (hi := σm.1 0 3 - (1 : Int32)) (by decide) rfl (fun z => absurd z.1 (by grind)) (fun _ => ⟨fun z => absurd rfl z, fun _ => ⟨rfl, hI0⟩⟩)
  · obtain ⟨t, ht, e⟩ := nI_of (x := l1) q
    subst e
    rw [a1.1] at q2
    have ht2 : t < tx.length := by
      rcases Nat.lt_or_ge t tx.length with z | z
      · exact z
      · exact absurd q2 (nI_nlt z ht)
    unfold kSim wX5_force
    refine m_in32 (lo := 0) (hi := σm.1 0 3 - (1 : Int32)) (by decide) rfl (fun _ => ⟨fun _ y3 f3 s5 e5 => ⟨?_, ?_⟩, fun z => absurd z (by decide)⟩) (fun z => ?_)
    · rw [f3, e3]
      exact a5.2.1.2.2.2.2
    · have f : fx 3 s4 = fset (fx 3 σx) 0 12 (nI t) := by rw [e4, fx_set0]
      have hw : sWorks (fset (fx 3 σx) 0 12 (nI t)) = sWorks (fx 3 σx) := by
        unfold sWorks
        rw [fset_ne (by decide)]
      refine hI0.now (by rw [e4]; exact xO.set0) ?_ (fun w _ => by rw [e5, kset_off (by decide)]) ?_ ?_ ?_ ?_
      · rw [e5]
        exact ⟨fun p h0 _ _ _ => kset_off h0, fun k h4 _ _ _ _ _ => kset_ne h4⟩
      · rw [f]; exact a4.set12 ht2
      · rw [f, ← nf_set (by decide), e5]
        exact k_rule a5
      · rw [f]
        unfold kYear
        rw [fset_ne (by decide)]
        exact a6
      · rw [f, hw]
        exact Nat.le_refl _
    · rw [eh] at z
      exact absurd ⟨nI_pos' ht, nI_le (by omega) (by omega)⟩ z
  · unfold kSim wX5_force
    refine m_in32 (lo := 0) (hi := σm.1 0 3 - (1 : Int32)) (by decide) rfl (fun z => ?_) (fun _ => ⟨fun z => absurd rfl z, fun _ => ⟨rfl, hI0⟩⟩)
    exfalso
    obtain ⟨t, ht, e⟩ := nI_of (x := l1) q
    subst e
    rw [a1.1] at q2
    rw [eh] at z
    have h1 := (nI_leI ht (by omega)).mp z.2
    exact q2 (nI_lt (by omega) (by omega))
/-- texts and the tape change, all else stays -/
theorem kInv.gen {tx tx' : List kTxt} {σx σm σx' σm' : kS} (h : kInv tx σx σm) (hx : ∀ p : Nat, (3 ≤ p ∧ p ≤ 11 ∨ 21 ≤ p ∧ p ≤ 29 ∨ 35 ≤ p) → σx'.1 p = σx.1 p) (hx0 : σx'.1 0 3 = σx.1 0 3) (hm : ∀ p : Nat, (4 ≤ p ∧ p ≤ 6 ∨ 10 ≤ p ∧ p ≤ 15) → σm'.1 p = σm.1 p) (hm0 : ∀ k : Nat, k ≠ 3 → k ≠ 6 → (k < 14 ∨ 28 < k) → σm'.1 0 k = σm.1 0 k) (hlen : tx.length ≤ tx'.length) (hE : xE tx' σx') (hE2 : mE (sW tx') tx'.length σm') (hc : σm'.1 0 3 = nI tx'.length) (hT : kTape σx' σm') : kInv tx' σx' σm' := by
  obtain ⟨a1, a2, a3, a4, a5, a6, a7, a8, a9⟩ := h
  have f3 : fx 3 σx' = fx 3 σx := fx_eq (fun r hr => hx _ (by omega))
  have f21 : fx 21 σx' = fx 21 σx := fx_eq (fun r hr => hx _ (by omega))
  refine ⟨hE, hE2, hc, ?_, ?_, ?_, ?_, hT, fun s hs => ?_⟩
  · rw [f3]; exact a4.mono hlen
  · rw [f3]
    obtain ⟨a, ⟨b1, b2, b3, b4, b5⟩, c⟩ := a5
    refine ⟨fun x hx => ?_, ⟨?_, ?_, ?_, ?_, ?_⟩, fun w hw => ?_⟩
    · rw [hm 4 (by omega)]
      exact a x hx
    · rw [hm0 7 (by decide) (by decide) (by decide)]; exact b1
    · rw [hm0 8 (by decide) (by decide) (by decide)]; exact b2
    · rw [hm0 9 (by decide) (by decide) (by decide)]; exact b3
    · rw [hm0 13 (by decide) (by decide) (by decide)]; exact b4
    · rw [hm0 4 (by decide) (by decide) (by decide)]; exact b5
    · rw [hm 5 (by omega), hm 6 (by omega)]
      exact c w hw
  · rw [f3]; exact a6
  · rcases a7 with ⟨b1, b2⟩ | ⟨b1, b2, b3, b4, b5, b6, b7⟩
    · refine Or.inl ⟨?_, ?_⟩
      · rw [hx0]; exact b1
      · rw [hm0 36 (by decide) (by decide) (by decide)]; exact b2
    · refine Or.inr ⟨?_, ?_, ?_, ?_, ?_⟩
      · rw [hx0]; exact b1
      · rw [f21]; exact b2.mono hlen
      · rw [f21]; exact b3
      · rw [f21, f3]; exact b4
      · rw [f21]
        refine ⟨fun c hc => ?_, ?_, fun w hw => ?_⟩
        · rw [hm 10 (by omega)]
          exact b5 c hc
        · rw [hm0 37 (by decide) (by decide) (by decide), hm0 38 (by decide) (by decide) (by decide), hm0 39 (by decide) (by decide) (by decide), hm0 36 (by decide) (by decide) (by decide), hm0 40 (by decide) (by decide) (by decide)]
          exact b6
        · rw [hm 5 (by omega), hm 11 (by omega)]
          exact b7 w hw
  · have := a9 s hs
    unfold kSheet at this ⊢
    rw [hx 39 (by omega), hx 40 (by omega), hx (35 + s) (by omega), hm 12 (by omega), hm 13 (by omega), hm 14 (by omega), hm 15 (by omega)]
    exact this
theorem s_feed {tx : List kTxt} {σx σm : kS} {l1 : Int32} (hI : kInv tx σx σm) : wX4_feed l1 σx (kSim tx σm (wX5_feed l1 σm)) := by
  have hI0 := hI
  obtain ⟨a1, a2, a3, a4, a5, a6, a7, ⟨n, t1, t2, t3, t4⟩, a9⟩ := hI
  refine ⟨fun q => ?_, fun q => ⟨fun q2 => ?_, fun q2 => ?_⟩⟩
  · unfold kSim wX5_feed
    exact m_in32 (lo := 0) (hi := 255) (by decide) (by decide) (fun z => absurd z.1 (by grind)) (fun _ => ⟨fun z => absurd rfl z, fun _ => ⟨rfl, hI0⟩⟩)
  · refine ⟨fun q3 => ?_, fun q3 => ⟨fun _ => ?_, fun z => absurd rfl z⟩⟩
    · have hn : n < 160 := by
        rw [t2] at q3
        rcases Nat.lt_or_ge n 160 with z | z
        · exact z
        · exact absurd q3 (nI_nlt (b := 160) z (by omega))
      rw [t2, k_cl (by omega)]
      refine ⟨k_idx hn (by decide), fun s2 e2 s3 e3 => ⟨fun z => absurd z (by decide), fun _ => ?_⟩⟩
      have e4 : s2.1 30 1 = nI n := by rw [e2, kset_off (by decide)]; exact t2
      rw [e4, k_n1] at e3
      unfold wX1_size kSim wX5_feed
      refine m_in32 (lo := 0) (hi := 255) (by decide) (by decide) (fun _ => ⟨fun _ => ⟨fun _ => ?_, fun z => ?_⟩, fun z => absurd z (by decide)⟩) (fun z => absurd (by grind) z)
      · rw [t3, k_cl (by omega)]
        refine ⟨k_idx hn (by decide), fun m4 f4 m5 f5 => ?_⟩
        have e6 : m4.1 0 6 = nI n := by rw [f4, kset_off (by decide)]; exact t3
        rw [e6, k_n1] at f5
        refine ⟨by rw [f5, kset_at, e3, kset_at], ?_⟩
        refine hI0.gen (fun p hp => by rw [e3, kset_off (by omega), e2, kset_off (by omega)]) (by rw [e3, kset_off (by decide), e2, kset_off (by decide)]) (fun p hp => by rw [f5, kset_off (by omega), f4, kset_off (by omega)]) (fun k _ h6 _ => by rw [f5, kset_ne h6, f4, kset_off (by decide)]) (Nat.le_refl _) ?_ ?_ ?_ ⟨n + 1, by omega, ?_, ?_, fun j hj => ?_⟩
        · refine ⟨?_, a1.2⟩
          rw [e3, kset_off (by decide), e2, kset_off (by decide)]
          exact a1.1
        · refine ⟨a2.1, fun t ht => ?_⟩
          rw [f5, kset_off (by decide), kset_off (by decide), f4, kset_off (by decide), kset_off (by decide)]
          exact a2.2 t ht
        · rw [f5, kset_ne (by decide), f4, kset_off (by decide)]
          exact a3
        · rw [e3, kset_at]
        · rw [f5, kset_at]
        · have k1 : m5.1 3 = (kset σm 3 n l1).1 3 := by rw [f5, kset_off (by decide), f4]
          have k2 : s3.1 31 = (kset σx 31 n l1).1 31 := by rw [e3, kset_off (by decide), e2]
          rw [k1, k2]
          by_cases hjn : j = n
          · subst hjn
            rw [kset_at, kset_at]
            exact ⟨rfl, by grind, q2⟩
          · rw [kset_ne hjn, kset_ne hjn]
            exact t4 j (by omega)
      · rw [t3] at z
        have := (nI_eq (b := 160) (by omega) (by decide)).mp z
        omega
    · have hn : n = 160 := by
        rw [t2] at q3
        rcases Nat.lt_or_ge n 160 with z | z
        · exact absurd (nI_lt (b := 160) z (by decide)) q3
        · omega
      unfold kSim wX5_feed
      refine m_in32 (lo := 0) (hi := 255) (by decide) (by decide) (fun _ => ⟨fun _ => ⟨fun z => absurd (by rw [t3, hn]; rfl) z, fun _ => ⟨rfl, hI0⟩⟩, fun z => absurd z (by decide)⟩) (fun z => absurd (by grind) z)
  · unfold kSim wX5_feed
    exact m_in32 (lo := 0) (hi := 255) (by decide) (by decide) (fun z => absurd z.2 (by grind)) (fun _ => ⟨fun z => absurd rfl z, fun _ => ⟨rfl, hI0⟩⟩)
