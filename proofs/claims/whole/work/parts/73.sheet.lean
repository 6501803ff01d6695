/-! the two programs side by side: sheets -/
theorem kInv.sh {tx : List kTxt} {σx σm σx' σm' : kS} (h : kInv tx σx σm) (hx : ∀ p : Nat, p < 35 → σx'.1 p = σx.1 p) (hm : ∀ p : Nat, p < 12 → σm'.1 p = σm.1 p) (hs : ∀ s : Nat, s < 4 → kSheet σx' σm' s) : kInv tx σx' σm' := by
  obtain ⟨a1, a2, a3, a4, a5, a6, a7, a8, a9⟩ := h
  have f3 : fx 3 σx' = fx 3 σx := fx_eq (fun r hr => hx _ (by omega))
  have f21 : fx 21 σx' = fx 21 σx := fx_eq (fun r hr => hx _ (by omega))
  refine ⟨⟨?_, a1.2⟩, ⟨a2.1, fun t ht => ?_⟩, ?_, ?_, ?_, ?_, ?_, ?_, hs⟩
  · rw [hx 0 (by decide)]
    exact a1.1
  · rw [hm 1 (by decide), hm 2 (by decide)]
    exact a2.2 t ht
  · rw [hm 0 (by decide)]
    exact a3
  · rw [f3]; exact a4
  · rw [f3]
    obtain ⟨a, b, c⟩ := a5
    refine ⟨fun x hx2 => ?_, ?_, fun w hw => ?_⟩
    · rw [hm 4 (by decide)]
      exact a x hx2
    · rw [hm 0 (by decide)]
      exact b
    · rw [hm 5 (by decide), hm 6 (by decide)]
      exact c w hw
  · rw [f3]; exact a6
  · rcases a7 with ⟨b1, b2⟩ | ⟨b1, b2, b3, b4, b5, b6, b7⟩
    · refine Or.inl ⟨?_, ?_⟩
      · rw [hx 0 (by decide)]; exact b1
      · rw [hm 0 (by decide)]; exact b2
    · refine Or.inr ⟨?_, ?_, ?_, ?_, ?_⟩
      · rw [hx 0 (by decide)]; exact b1
      · rw [f21]; exact b2
      · rw [f21]; exact b3
      · rw [f21, f3]; exact b4
      · rw [f21]
        refine ⟨fun c hc => ?_, ?_, fun w hw => ?_⟩
        · rw [hm 10 (by decide)]
          exact b5 c hc
        · rw [hm 0 (by decide)]
          exact b6
        · rw [hm 5 (by decide), hm 11 (by decide)]
          exact b7 w hw
  · obtain ⟨n, c1, c2, c3, c4⟩ := a8
    refine ⟨n, c1, ?_, ?_, fun j hj => ?_⟩
    · rw [hx 30 (by decide)]; exact c2
    · rw [hm 0 (by decide)]; exact c3
    · rw [hx 31 (by decide), hm 3 (by decide)]
      exact c4 j hj
theorem x_has4 {s : Nat} {σ : kS} {Q : Int32 → kS → Prop} (hs : s < 4) (h : Q 1 σ) : wX2_has (nI s) σ Q := ⟨fun q => absurd q (k_nn (by omega)), fun _ => ⟨fun q => absurd q (nI_ge (b := 4) hs (by decide)), fun _ => h⟩⟩
theorem x_hasS {l : Int32} {σ : kS} {Q : Int32 → kS → Prop} (h1 : ∀ s : Nat, s < 4 → l = nI s → Q 1 σ) (h0 : ¬ (0 ≤ l ∧ l ≤ 3) → Q 0 σ) : wX2_has l σ Q := by
  refine ⟨fun q => h0 (fun z => Int32.not_le.mpr q z.1), fun q => ⟨fun q2 => h0 (fun z => absurd (Int32.le_trans q2 z.2) (by decide)), fun q2 => ?_⟩⟩
  obtain ⟨s, hs, e⟩ := nI_of2 (x := l) (M := 3) (n := 3) (by decide) q (by grind)
  exact h1 s (by omega) e
theorem m_isSheet {l : Int32} {Q : Int32 → Prop} (h1 : (0 ≤ l ∧ l ≤ 3) → Q 1) (h0 : ¬ (0 ≤ l ∧ l ≤ 3) → Q 0) : wX5_isSheet l Q := m_in32 (lo := 0) (hi := 3) (by decide) (by decide) (fun z => ⟨Or.inr rfl, h1 z⟩) (fun z => ⟨Or.inl rfl, h0 z⟩)
theorem nI_3 {s : Nat} (h : s < 4) : 0 ≤ nI s ∧ nI s ≤ 3 := ⟨nI_pos' (by omega), nI_le (b := 3) (by omega) (by decide)⟩
theorem x_missing {s : Nat} {σ : kS} {Q : Int32 → kS → Prop} (hs : s < 4) (h1 : σ.1 39 s = -1 → Q 1 σ) (h0 : ¬ σ.1 39 s = -1 → Q 0 σ) : wX2_isMissing (nI s) σ Q := by
  refine x_has4 hs ⟨fun z => absurd z (by decide), fun _ => ⟨k_idx hs (by decide), ?_⟩⟩
  rw [k_cl (by omega)]
  exact ⟨h0, h1⟩
theorem x_sort {s : Nat} {σ : kS} {Q : Int32 → kS → Prop} (hs : s < 4) (h : Q (σ.1 39 s) σ) : wX2_sort (nI s) σ Q := by
  refine x_has4 hs ⟨fun z => absurd z (by decide), fun _ => ⟨k_idx hs (by decide), ?_⟩⟩
  rw [k_cl (by omega)]
  exact h
theorem x_size {s : Nat} {σ : kS} {Q : Int32 → kS → Prop} (hs : s < 4) (h : Q (σ.1 40 s) σ) : wX2_size (nI s) σ Q := by
  refine x_has4 hs ⟨fun z => absurd z (by decide), fun _ => ⟨k_idx hs (by decide), ?_⟩⟩
  rw [k_cl (by omega)]
  exact h
theorem x_hasItem {s n : Nat} {l : Int32} {σ : kS} {Q : Int32 → kS → Prop} (hs : s < 4) (hn : n ≤ 40) (e : σ.1 40 s = nI n) (h1 : ∀ i : Nat, i < n → l = nI i → Q 1 σ) (h0 : ¬ (0 ≤ l ∧ l < nI n) → Q 0 σ) : wX2_hasItem (nI s) l σ Q := by
  refine ⟨fun q => h0 (fun z => Int32.not_le.mpr q z.1), fun q => x_size hs ⟨fun q2 => h0 (fun z => ?_), fun q2 => ?_⟩⟩
  · rw [e] at q2
    exact Int32.not_le.mpr z.2 q2
  · rw [e] at q2
    obtain ⟨i, hi, ei⟩ := nI_of (x := l) q
    rw [ei] at q2
    refine h1 i ?_ ei
    rcases Nat.lt_or_ge i n with z | z
    · exact z
    · exact absurd (nI_le z (by omega)) q2
theorem x_make {s n : Nat} {v : Int32} {σ : kS} {Q : kS → Prop} (hs : s < 4) (hn : n ≤ 40) (h : ∀ σ' : kS, (∀ p : Nat, p ≠ 35 + s → p ≠ 39 → p ≠ 40 → σ'.1 p = σ.1 p) → (∀ j : Nat, j ≠ s → σ'.1 39 j = σ.1 39 j ∧ σ'.1 40 j = σ.1 40 j) → σ'.1 39 s = v → σ'.1 40 s = nI n → (∀ i : Nat, i < n → σ'.1 (35 + s) i = 0) → Q σ') : wX2_make (nI s) v (nI n) σ Q := by
  refine x_has4 hs ⟨fun z => absurd z (by decide), fun _ => ⟨fun q => absurd q (k_nn (by omega)), fun _ => ⟨fun q => absurd q (nI_nlt (a := 40) hn (by decide)), fun _ => ⟨k_idx hs (by decide), fun s6 e6 => ⟨k_idx hs (by decide), fun s7 e7 => ?_⟩⟩⟩⟩⟩
  rw [k_cl (by omega)] at e6 e7
  have z7 : ∀ p : Nat, p ≠ 39 → p ≠ 40 → s7.1 p = σ.1 p := fun p p39 p40 => by rw [e7, kset_off p40, e6, kset_off p39]
  intro P hP
  suffices key : ∀ r i : Nat, i + r = n → ∀ u : kS, (∀ p : Nat, p ≠ 35 + s → u.1 p = s7.1 p) → (∀ j : Nat, j < i → u.1 (35 + s) j = 0) → P u (nI i) from key n 0 (by omega) s7 (fun _ _ => rfl) (fun j hj => absurd hj (by omega))
  intro r
  induction r with
  | zero =>
    intro i hi u k1 k2
    have e : i = n := by omega
    subst e
    refine hP _ _ ⟨fun _ => h u (fun p p1 p2 p3 => by rw [k1 p p1, z7 p p2 p3]) (fun j hj => ⟨?_, ?_⟩) ?_ ?_ k2, fun q => absurd (Int32.le_refl _) q⟩
    · rw [k1 39 (by omega), e7, kset_off (by decide), e6, kset_ne hj]
    · rw [k1 40 (by omega), e7, kset_ne hj, e6, kset_off (by decide)]
    · rw [k1 39 (by omega), e7, kset_off (by decide), e6, kset_at]
    · rw [k1 40 (by omega), e7, kset_at]
  | succ r ih =>
    intro i hi u k1 k2
    refine hP _ _ ⟨fun q => absurd q (nI_ge (by omega) (by omega)), fun _ => ⟨k_idx hs (by decide), k_idx (by omega) (by decide), fun s10 e10 x ex => ?_⟩⟩
    rw [k_cl (by omega), k_cl (by omega)] at e10
    rw [ex, k_n1]
    refine ih (i + 1) (by omega) s10 (fun p hp => by rw [e10, kset_off hp, k1 p hp]) (fun j hj => ?_)
    by_cases q : j = i
    · subst q
      rw [e10, kset_at]
    · rw [e10, kset_ne q]
      exact k2 j (by omega)
/-- what of the reference one sheet's change leaves -/
def mI (s : Nat) (σ σ' : kS) : Prop := (∀ p : Nat, p < 12 → σ'.1 p = σ.1 p) ∧ (∀ j : Nat, j ≠ s → σ'.1 12 j = σ.1 12 j ∧ σ'.1 13 j = σ.1 13 j ∧ σ'.1 14 j = σ.1 14 j) ∧ ∀ j : Nat, (j < 40 * s ∨ 40 * s + 40 ≤ j) → σ'.1 15 j = σ.1 15 j
theorem m_sheet59 {s n : Nat} {v th : Int32} {σ : kS} {Q : Int32 → kS → Prop} (hs : s < 4) (hn : n ≤ 40) (hv : ¬ v < 0) (h : ∀ σ' : kS, mI s σ σ' → σ'.1 12 s = 1 → σ'.1 13 s = v → σ'.1 14 s = nI n → (∀ i : Nat, i < n → σ'.1 15 (40 * s + i) = 0) → Q 1 σ') : wX5_sheet_59 Q (nI s) v (nI n) (1 : Int32) (nI s) σ := by
  refine ⟨k_idx hs (by decide), Or.inr rfl, fun s10 e10 => ⟨k_idx hs (by decide), fun s11 e11 => ⟨k_idx hs (by decide), fun s12 e12 => ?_⟩⟩⟩
  rw [k_cl (by omega)] at e10 e11 e12
  intro P hP
  suffices key : ∀ r i : Nat, i + r = n → ∀ u : kS, (∀ p : Nat, p ≠ 15 → u.1 p = s12.1 p) → (∀ j : Nat, (j < 40 * s ∨ 40 * s + 40 ≤ j) → u.1 15 j = σ.1 15 j) → (∀ j : Nat, j < i → u.1 15 (40 * s + j) = 0) → P u (nI i) from key n 0 (by omega) s12 (fun _ _ => rfl) (fun j _ => by rw [e12, kset_off (by decide), e11, kset_off (by decide), e10, kset_off (by decide)]) (fun j hj => absurd hj (by omega))
  intro r
  induction r with
  | zero =>
    intro i hi u k1 k2 k3
    have e : i = n := by omega
    subst e
    refine hP _ _ ⟨fun _ => h u ⟨fun p hp => ?_, fun j hj => ⟨?_, ?_, ?_⟩, k2⟩ ?_ ?_ ?_ k3, fun q => absurd (Int32.le_refl _) q⟩
    · rw [k1 p (by omega), e12, kset_off (by omega), e11, kset_off (by omega), e10, kset_off (by omega)]
    · rw [k1 12 (by omega), e12, kset_off (by decide), e11, kset_off (by decide), e10, kset_ne hj]
    · rw [k1 13 (by omega), e12, kset_off (by decide), e11, kset_ne hj, e10, kset_off (by decide)]
    · rw [k1 14 (by omega), e12, kset_ne hj, e11, kset_off (by decide), e10, kset_off (by decide)]
    · rw [k1 12 (by omega), e12, kset_off (by decide), e11, kset_off (by decide), e10, kset_at]
    · rw [k1 13 (by omega), e12, kset_off (by decide), e11, kset_at]
    · rw [k1 14 (by omega), e12, kset_at]
  | succ r ih =>
    intro i hi u k1 k2 k3
    have ix : ((40 : Int32) * nI s) + nI i = nI (40 * s + i) := by rw [show (40 : Int32) * nI s = nI (40 * s) from pk_mul 40 s, nI_add]
    refine hP _ _ ⟨fun q => absurd q (nI_ge (by omega) (by omega)), fun _ => ⟨fun q => absurd q hv, fun _ => ?_⟩⟩
    rw [ix]
    refine ⟨k_idx (by omega) (by decide), fun s15 e15 x ex => ?_⟩
    rw [k_cl (by omega)] at e15
    rw [ex, k_n1]
    refine ih (i + 1) (by omega) s15 (fun p hp => by rw [e15, kset_off hp, k1 p hp]) (fun j hj => ?_) (fun j hj => ?_)
    · rw [e15, kset_ne (by omega)]
      exact k2 j hj
    · by_cases q : j = i
      · subst q
        rw [e15, kset_at]
      · rw [e15, kset_ne (by omega)]
        exact k3 j (by omega)
/-- a row that is made anew -/
theorem kSheet.new {s n q : Nat} {σx σm σx' σm' : kS} (hs : s < 4) (hn : n ≤ 40) (hq : q < 3) (h : ∀ j : Nat, j < 4 → kSheet σx σm j) (x1 : ∀ p : Nat, p ≠ 35 + s → p ≠ 39 → p ≠ 40 → σx'.1 p = σx.1 p) (x2 : ∀ j : Nat, j ≠ s → σx'.1 39 j = σx.1 39 j ∧ σx'.1 40 j = σx.1 40 j) (x3 : σx'.1 39 s = nI q) (x4 : σx'.1 40 s = nI n) (m1 : mI s σm σm') (m3 : σm'.1 12 s = 1) (m4 : σm'.1 13 s = nI q) (m5 : σm'.1 14 s = nI n) (xm : ∀ i : Nat, i < n → σx'.1 (35 + s) i = σm'.1 15 (40 * s + i)) : ∀ j : Nat, j < 4 → kSheet σx' σm' j := by
  intro j hj
  by_cases e : j = s
  · subst e
    exact Or.inr ⟨⟨q, hq, x3, m4⟩, m3, n, hn, x4, m5, xm⟩
  · obtain ⟨k1, k2, k3⟩ := m1.2.1 j e
    obtain ⟨k4, k5⟩ := x2 j e
    rcases h j hj with ⟨b1, b2⟩ | ⟨⟨p, b1, b2, b3⟩, b4, l, b5, b6, b7, b8⟩
    · exact Or.inl ⟨k4.trans b1, k1.trans b2⟩
    · refine Or.inr ⟨⟨p, b1, k4.trans b2, k2.trans b3⟩, k1.trans b4, l, b5, k5.trans b6, k3.trans b7, fun i hi => ?_⟩
      rw [x1 (35 + j) (by omega) (by omega) (by omega), m1.2.2 (40 * j + i) (by omega)]
      exact b8 i hi
theorem s_sheet {tx : List kTxt} {σx σm : kS} {l1 l2 l3 : Int32} (hI : kInv tx σx σm) : wX4_sheet l1 l2 l3 σx (kSim tx σm (wX5_sheet l1 l2 l3 σm)) := by
  have hI0 := hI
  obtain ⟨a1, a2, a3, a4, a5, a6, a7, a8, a9⟩ := hI
  refine x_hasS (fun s hs e => ⟨fun z => absurd z (by decide), fun _ => ?_⟩) (fun hb => ⟨fun _ => ?_, fun z => absurd rfl z⟩)
  · subst e
    have go : ∀ R : Int32 → kS → Prop, ((-1 ≤ l2 ∧ l2 ≤ 2) → ((l2 < 0 → wX5_sheet_34 R (nI s) l2 l3 σm) ∧ (¬ l2 < 0 → (l3 ≤ (40 : Int32) → wX5_sheet_34 R (nI s) l2 l3 σm) ∧ (¬ l3 ≤ (40 : Int32) → R (-2 : Int32) σm)))) → (¬ (-1 ≤ l2 ∧ l2 ≤ 2) → R (-2 : Int32) σm) → wX5_sheet (nI s) l2 l3 σm R := by
      intro R h1 h0
      exact m_isSheet (fun _ => ⟨fun z => absurd z (by decide), fun _ => m_in32 (lo := -1) (hi := 2) (by decide) (by decide) (fun z => ⟨fun y => absurd y (by decide), fun _ => h1 z⟩) (fun z => ⟨fun _ => h0 z, fun y => absurd rfl y⟩)⟩) (fun z => absurd (nI_3 hs) z)
    unfold kSim
    refine ⟨fun q => go _ (fun z => absurd z.1 (Int32.not_le.mpr q)) (fun _ => ⟨rfl, hI0⟩), fun q => ⟨fun q2 => ⟨fun q3 => ⟨fun q4 => ⟨fun q5 => ?_, fun q5 => ?_⟩, fun q4 => ?_⟩, fun q3 => ?_⟩, fun q2 => go _ (fun z => absurd z.2 (by grind)) (fun _ => ⟨rfl, hI0⟩)⟩⟩
    · have p2 : ¬ l2 < 0 := by grind
      obtain ⟨k, hk, e⟩ := nI_of2 (x := l2) (M := 2) (n := 2) (by decide) p2 (by grind)
      obtain ⟨n, hn, en⟩ := nI_of2 (x := l3) (M := 40) (n := 40) (by decide) (by grind) q4
      subst e en
      refine x_make hs hn (fun s1 x1 x2 x3 x4 x5 => ?_)
      refine go _ (fun _ => ⟨fun z => absurd z p2, fun _ => ⟨fun _ => ⟨fun z => absurd z p2, fun _ => ⟨fun _ => ⟨fun z => absurd z p2, fun _ => ?_⟩, fun z => absurd q5 z⟩⟩, fun z => absurd q4 z⟩⟩) (fun z => absurd ⟨by grind, by grind⟩ z)
      refine m_sheet59 (th := 1) hs hn p2 (fun s2 m1 m2 m3 m4 m5 => ⟨rfl, hI0.sh (fun p hp => x1 p (by omega) (by omega) (by omega)) m1.1 ?_⟩)
      exact kSheet.new hs hn (by omega) a9 x1 x2 x3 x4 m1 m2 m3 m4 (fun i hi => by rw [x5 i hi, m5 i hi])
    · have p2 : ¬ l2 < 0 := by grind
      exact go _ (fun _ => ⟨fun z => absurd z p2, fun _ => ⟨fun _ => ⟨fun z => absurd z p2, fun _ => ⟨fun z => absurd z q5, fun _ => ⟨rfl, hI0⟩⟩⟩, fun z => absurd q4 z⟩⟩) (fun z => absurd ⟨by grind, by grind⟩ z)
    · have p2 : ¬ l2 < 0 := by grind
      exact go _ (fun _ => ⟨fun z => absurd z p2, fun _ => ⟨fun z => absurd z q4, fun _ => ⟨rfl, hI0⟩⟩⟩) (fun z => absurd ⟨by grind, by grind⟩ z)
    · subst q3
      refine x_has4 hs ⟨fun z => absurd z (by decide), fun _ => ⟨k_idx hs (by decide), fun s4 e4 => ⟨k_idx hs (by decide), fun s5 e5 => ?_⟩⟩⟩
      rw [k_cl (by omega)] at e4 e5
      refine go _ (fun _ => ⟨fun _ => ⟨fun _ => ⟨fun _ => ?_, fun z => absurd (by decide) z⟩, fun z => absurd (by decide) z⟩, fun z => absurd (by decide) z⟩) (fun z => absurd (by decide) z)
      refine ⟨k_idx hs (by decide), Or.inl rfl, fun t10 f10 => ⟨k_idx hs (by decide), fun t11 f11 => ⟨k_idx hs (by decide), fun t12 f12 => ?_⟩⟩⟩
      rw [k_cl (by omega)] at f10 f11 f12
      have fin : ∀ u : kS, u = t12 → (fun r' σm' => r' = 1 ∧ kInv tx s5 σm') (1 : Int32) u := by
        intro u eu
        refine ⟨rfl, hI0.sh (fun p hp => by rw [e5, kset_off (by omega), e4, kset_off (by omega)]) (fun p hp => by rw [eu, f12, kset_off (by omega), f11, kset_off (by omega), f10, kset_off (by omega)]) (fun j hj => ?_)⟩
        by_cases e : j = s
        · subst e
          refine Or.inl ⟨?_, ?_⟩
          · rw [e5, kset_off (by decide), e4, kset_at]
          · rw [eu, f12, kset_off (by decide), f11, kset_off (by decide), f10, kset_at]
        · have k1 : s5.1 39 j = σx.1 39 j := by rw [e5, kset_off (by decide), e4, kset_ne e]
          have k2 : s5.1 40 j = σx.1 40 j := by rw [e5, kset_ne e, e4, kset_off (by decide)]
          have k3 : s5.1 (35 + j) = σx.1 (35 + j) := by rw [e5, kset_off (by omega), e4, kset_off (by omega)]
          have k4 : u.1 12 j = σm.1 12 j := by rw [eu, f12, kset_off (by decide), f11, kset_off (by decide), f10, kset_ne e]
          have k5 : u.1 13 j = σm.1 13 j := by rw [eu, f12, kset_off (by decide), f11, kset_ne e, f10, kset_off (by decide)]
          have k6 : u.1 14 j = σm.1 14 j := by rw [eu, f12, kset_ne e, f11, kset_off (by decide), f10, kset_off (by decide)]
          have k7 : u.1 15 = σm.1 15 := by rw [eu, f12, kset_off (by decide), f11, kset_off (by decide), f10, kset_off (by decide)]
          have := a9 j hj
          unfold kSheet at this ⊢
          rw [k1, k2, k3, k4, k5, k6, k7]
          exact this
      intro P hP
      exact hP _ _ ⟨fun _ => fin _ rfl, fun _ => ⟨fun _ => fin _ rfl, fun z => absurd (by decide) z⟩⟩
  · unfold kSim
    exact m_isSheet (fun z => absurd z hb) (fun _ => ⟨fun _ => ⟨rfl, hI0⟩, fun z => absurd rfl z⟩)
