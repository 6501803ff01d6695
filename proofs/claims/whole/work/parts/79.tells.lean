/-! the two programs side by side: tells -/
theorem i_dec {p w : Nat} (hp : p ≤ 3) (hw : w < 10) : nI (10 * p + w) / (10 : Int32) = nI p ∧ krem (nI (10 * p + w)) (10 : Int32) = nI w := by
  have ed := i_divrem (m := 10 * p + w) (d := 10) (by omega) (by decide) (by decide)
  rw [show (10 * p + w) / 10 = p by omega, show (10 * p + w) % 10 = w by omega] at ed
  exact ed
theorem x_isOfTells {nt : Nat} {l : Int32} {σ : kS} {Q : Int32 → kS → Prop} (hO : sOk nt (fx 3 σ)) (h1 : (0 ≤ l ∧ l ≤ 3) → Q 1 σ) (h2 : ∀ p w : Nat, 1 ≤ p → p ≤ 3 → w < sWorks (fx 3 σ) → l = nI (10 * p + w) → Q 1 σ) (h0 : ¬ (0 ≤ l ∧ l ≤ 3) → (∀ p w : Nat, 1 ≤ p → p ≤ 3 → w < sWorks (fx 3 σ) → ¬ l = nI (10 * p + w)) → Q 0 σ) : wX4_isOfTells l σ Q := by
  obtain ⟨h6, hn⟩ := hO.works
  have e11 : σ.1 3 11 = nI (sWorks (fx 3 σ)) := hn
  have rest : ¬ (0 ≤ l ∧ l ≤ 3) → wX4_isOfTells_9 Q l σ := by
    intro hno
    refine ⟨fun q => h0 hno (fun p w p1 p3 hw e => ?_), fun q => ⟨fun q2 => h0 hno (fun p w p1 p3 hw e => ?_), fun q2 => ?_⟩⟩
    · rw [e] at q
      exact absurd q (nI_nlt (b := 10) (by omega) (by omega))
    · rw [e] at q2
      exact absurd q2 (nI_ge (b := 40) (by omega) (by decide))
    · obtain ⟨m, hm, e⟩ := nI_of2 (x := l) (M := 39) (n := 39) (by decide) (by grind) (by grind)
      subst e
      have m10 : 10 ≤ m := by
        rcases Nat.lt_or_ge m 10 with z | z
        · exact absurd (nI_lt (b := 10) z (by decide)) q
        · exact z
      have ed := i_dec (p := m / 10) (w := m % 10) (by omega) (by omega)
      rw [show 10 * (m / 10) + m % 10 = m by omega] at ed
      rw [ed.2, e11]
      refine ⟨fun q3 => h0 hno (fun p w p1 p3 hw e => ?_), fun q3 => h2 (m / 10) (m % 10) (by omega) (by omega) ?_ ?_⟩
      · have em := (nI_eq (by omega) (by omega)).mp e
        have : m % 10 = w := by omega
        rw [this] at q3
        exact absurd q3 (nI_ge hw (by omega))
      · rcases Nat.lt_or_ge (m % 10) (sWorks (fx 3 σ)) with z | z
        · exact z
        · exact absurd (nI_le z (by omega)) q3
      · rw [show 10 * (m / 10) + m % 10 = m by omega]
  refine ⟨fun q => rest (fun z => Int32.not_le.mpr q z.1), fun q => ⟨fun q2 => h1 ⟨Int32.not_lt.mp q, q2⟩, fun q2 => rest (fun z => q2 z.2)⟩⟩
theorem m_tells {nt s : Nat} {A : kFn} {l : Int32} {σ : kS} {Q : Int32 → kS → Prop} (hO : sOk nt A) (hR : mR A σ) (hs : s < 4) (h1 : (0 ≤ l ∧ l ≤ 3) → wX5_tells_47 Q (nI s) l σ) (h2 : ∀ p w : Nat, 1 ≤ p → p ≤ 3 → w < sWorks A → l = nI (10 * p + w) → wX5_tells_47 Q (nI s) l σ) (h0 : ¬ (0 ≤ l ∧ l ≤ 3) → (∀ p w : Nat, 1 ≤ p → p ≤ 3 → w < sWorks A → ¬ l = nI (10 * p + w)) → Q (-2) σ) : wX5_tells (nI s) l σ Q := by
  obtain ⟨h6, hn⟩ := hO.works
  refine m_isSheet (fun _ => ⟨fun z => absurd z (by decide), fun _ => ?_⟩) (fun z => absurd (nI_3 hs) z)
  refine m_in32 (lo := 0) (hi := 3) (by decide) (by decide) (fun q => ⟨fun _ => h1 q, fun z => absurd z (by decide)⟩) (fun q => ⟨fun z => absurd rfl z, fun _ => ?_⟩)
  refine m_in32 (lo := 10) (hi := 39) (by decide) (by decide) (fun q2 => ⟨fun z => absurd z (by decide), fun _ => ?_⟩) (fun q2 => ⟨fun _ => h0 q (fun p w p1 p3 hw e => q2 ?_), fun z => absurd rfl z⟩)
  · obtain ⟨m, hm, e⟩ := nI_of2 (x := l) (M := 39) (n := 39) (by decide) (by grind) q2.2
    subst e
    have m10 : 10 ≤ m := (nI_leI (a := 10) (by decide) (by omega)).mp q2.1
    have ed := i_dec (p := m / 10) (w := m % 10) (by omega) (by omega)
    rw [show 10 * (m / 10) + m % 10 = m by omega] at ed
    rw [ed.2]
    refine m_isWork hO hR (fun w hw e => ⟨fun _ => h2 (m / 10) w (by omega) (by omega) hw ?_, fun z => absurd z (by decide)⟩) (fun z => ⟨fun y => absurd rfl y, fun _ => h0 q (fun p w p1 p3 hw e => z ?_)⟩)
    · have := (nI_eq (by omega) (by omega)).mp e
      rw [← this, show 10 * (m / 10) + m % 10 = m by omega]
    · have em := (nI_eq (by omega) (by omega)).mp e
      rw [show m % 10 = w by omega, hn]
      exact ⟨nI_pos' (by omega), nI_lt hw (by omega)⟩
  · rw [e]
    exact ⟨nI_le (a := 10) (by omega) (by omega), nI_le (b := 39) (by omega) (by decide)⟩
theorem m_130 {nt what of : Nat} {A : kFn} {l1 l2 lof : Int32} {σ : kS} {Q : Int32 → kS → Prop} (hO : sOk nt A) (hR : mR A σ) (hw : what = 0 ∨ what = 5 ∨ what = 6 ∨ what = 8) (hl : 2 ≤ what → lof = nI of) (hk : 5 ≤ what → of < sWorks A) (h : wX5_tells_201 Q l1 l2 lof (nI what) (A (kSl what of).1 (kSl what of).2) (kMost what) (0 : Int32) (0 : Int32) (-1 : Int32) (0 : Int32) σ) : wX5_tells_130 Q l1 l2 lof (nI what) σ := by
  refine ⟨fun _ => m_told hO hR (by omega) hl (fun a b => by omega) hk ?_, fun z => ?_⟩
  · rcases hw with e | e | e | e <;> subst e
    · exact ⟨fun _ => ⟨fun _ => m_mostOf (what := 0) (by decide) h, fun z => absurd z (by decide)⟩, fun z => absurd z (by decide)⟩
    · exact ⟨fun _ => ⟨fun _ => m_mostOf (what := 5) (by decide) h, fun z => absurd z (by decide)⟩, fun z => absurd z (by decide)⟩
    · exact ⟨fun _ => ⟨fun _ => m_mostOf (what := 6) (by decide) h, fun z => absurd z (by decide)⟩, fun z => absurd z (by decide)⟩
    · exact ⟨fun _ => ⟨fun z => absurd rfl z, fun _ => h⟩, fun z => absurd z (by decide)⟩
  · have := (nI_eq (b := 9) (by omega) (by decide)).mp z
    omega
/-- what of the WORK is told by tens -/
def kTw (p : Nat) : Nat := if p = 1 then 8 else if p = 2 then 5 else 6
theorem x_toldOfWork {p w : Nat} {Q : Int32 → Prop} (h1 : 1 ≤ p) (h3 : p ≤ 3) (hw : w < 10) (h : Q (nI (kTw p))) : wX4_toldOfWork (nI (10 * p + w)) Q := by
  unfold wX4_toldOfWork
  rw [(i_dec h3 hw).1]
  rcases (by omega : p = 1 ∨ p = 2 ∨ p = 3) with e | e | e <;> subst e
  · exact ⟨fun _ => h, fun z => absurd z (by decide), fun z => absurd rfl z⟩
  · exact ⟨fun z => absurd z (by decide), fun _ => h, fun _ z => absurd rfl z⟩
  · exact ⟨fun z => absurd z (by decide), fun z => absurd z (by decide), fun _ _ => h⟩
/-- how many values a thing of a WORK can have -/
def kCn (p : Nat) : Nat := if p = 1 then 6 else if p = 2 then 10 else 12
theorem kCn_most {p : Nat} (h1 : 1 ≤ p) (h3 : p ≤ 3) : kMost (kTw p) = nI (kCn p - 1) ∧ kMost (kTw p) + 1 = nI (kCn p) ∧ (kTw p = 5 ∨ kTw p = 6 ∨ kTw p = 8) ∧ 0 < kCn p ∧ kCn p ≤ 12 := by
  rcases (by omega : p = 1 ∨ p = 2 ∨ p = 3) with e | e | e <;> subst e <;> decide
theorem s_tells {tx : List kTxt} {σx σm : kS} {l1 l2 : Int32} (hI : kInv tx σx σm) : wX4_tells tx l1 l2 σx (kSim tx σm (wX5_tells l1 l2 σm)) := by
  have hI0 := hI
  obtain ⟨a1, a2, a3, a4, a5, a6, a7, a8, a9⟩ := hI
  have hO := nf_ok.mpr a4
  have h6 := a4.works.1
  refine x_hasS (fun s hs e => ⟨fun z => absurd z (by decide), fun _ => ?_⟩) (fun hb => ⟨fun _ => ?_, fun z => absurd rfl z⟩)
  · subst e
    have ixs : vp_in (nI s) 4 := k_idx hs (by decide)
    -- behind all: the reference's fen is back
    have back : ∀ s1 u : kS, xO1 σx s1 → mR (nf (fx 3 σx)) u → mV 0 σm u → kInv tx s1 u := by
      intro s1 u o1 r2 v2
      have now : fx 3 s1 = fx 3 σx := xO1_fx o1
      have hu := hI0.u o1 mU.rf
      refine hu.re (fun p _ _ => rfl) v2.1 v2.2.1 (fun w hw => ?_) hu.2.2.2.1 ?_ hu.2.2.2.2.2.1 (Nat.le_refl _)
      · have hw2 : w < sWorks (nf (fx 3 σx)) := by rw [nf_works, ← now]; exact hw
        exact (r2.2.2 w hw2).1.trans (a5.2.2 w hw2).1.symm
      · rw [now]
        exact r2
    have main : (∀ R : Int32 → kS → Prop, wX5_tells_47 R (nI s) l2 σm → wX5_tells (nI s) l2 σm R) → ((0 ≤ l2 ∧ l2 ≤ 3) ∨ ∃ p w : Nat, 1 ≤ p ∧ p ≤ 3 ∧ w < sWorks (fx 3 σx) ∧ l2 = nI (10 * p + w)) → wX2_isMissing (nI s) σx (fun r8 s7 => (r8 = 0 → wX2_size (nI s) s7 (fun r11 s10 => (r11 ≤ (30 : Int32) → (l2 = (0 : Int32) → wX4_firstOther tx (nI s) (0 : Int32) (0 : Int32) (s10.1 3 8) s10 (fun r15 s14 => kSim tx σm (wX5_tells (nI s) l2 σm) r15 s14)) ∧ (l2 = (1 : Int32) → wX4_fitting tx (nI s) (11 : Int32) (0 : Int32) (s10.1 0 5) s10 (fun r18 s17 => kSim tx σm (wX5_tells (nI s) l2 σm) r18 s17)) ∧ (l2 = (2 : Int32) → wX4_fittingRivers tx (nI s) s10 (fun r21 s20 => kSim tx σm (wX5_tells (nI s) l2 σm) r21 s20)) ∧ (l2 = (3 : Int32) → wX4_highestFittingRiver tx (nI s) s10 (fun r24 s23 => kSim tx σm (wX5_tells (nI s) l2 σm) r24 s23)) ∧ (¬ l2 = (0 : Int32) → ¬ l2 = (1 : Int32) → ¬ l2 = (2 : Int32) → ¬ l2 = (3 : Int32) → wX4_toldOfWork l2 (fun r25 => wX4_toldOfWork l2 (fun r26 => wX0_most r26 (fun r27 => wX4_fitting tx (nI s) r25 (krem l2 (10 : Int32)) (r27 + (1 : Int32)) s10 (fun r29 s28 => kSim tx σm (wX5_tells (nI s) l2 σm) r29 s28)))))) ∧ (¬ r11 ≤ (30 : Int32) → kSim tx σm (wX5_tells (nI s) l2 σm) (-2 : Int32) s10))) ∧ (¬ r8 = 0 → kSim tx σm (wX5_tells (nI s) l2 σm) (-11 : Int32) s7)) := by
      intro go hl2
      refine x_missing hs (fun q => ⟨fun z => absurd z (by decide), fun _ => ?_⟩) (fun q => ⟨fun _ => x_size hs ?_, fun z => absurd rfl z⟩)
      · rcases a9 s hs with ⟨b1, b2⟩ | ⟨⟨p, b1, b2, b3⟩, b4, n, b5, b6, b7, b8⟩
        · unfold kSim
          refine go _ ⟨ixs, ?_⟩
          rw [k_cl (by omega)]
          exact ⟨fun z => absurd b2 z, fun _ => ⟨rfl, hI0⟩⟩
        · rw [b2] at q
          exact absurd q (nI_nm1 (by omega))
      · rcases a9 s hs with ⟨b1, b2⟩ | ⟨⟨p, b1, b2, b3⟩, b4, n, b5, b6, b7, b8⟩
        · exact absurd b1 q
        · have there : ¬ σm.1 12 s = 0 := by rw [b4]; decide
          rw [b6]
          refine ⟨fun q30 => ?_, fun q30 => ?_⟩
          · have hn : n ≤ 30 := (nI_leI (b := 30) (by omega) (by decide)).mp q30
            have hf : ∀ i : Nat, i < n → σm.1 15 (40 * s + i) = σx.1 (35 + s) i := fun i hi => (b8 i hi).symm
            have into : ∀ R : Int32 → kS → Prop, ((l2 ≠ 0 → ∀ x13 : Int32, x13 = krem l2 (10 : Int32) → (l2 ≠ (1 : Int32) → ((4 : Int32) ≤ l2 → ((20 : Int32) ≤ l2 → ((30 : Int32) ≤ l2 → wX5_tells_130 R (nI s) l2 x13 (6 : Int32) σm) ∧ (¬ (30 : Int32) ≤ l2 → wX5_tells_130 R (nI s) l2 x13 (5 : Int32) σm)) ∧ (¬ (20 : Int32) ≤ l2 → wX5_tells_130 R (nI s) l2 x13 (8 : Int32) σm)) ∧ (¬ (4 : Int32) ≤ l2 → wX5_tells_130 R (nI s) l2 x13 (0 : Int32) σm)) ∧ (l2 = (1 : Int32) → wX5_tells_130 R (nI s) l2 x13 (9 : Int32) σm)) ∧ (l2 = 0 → wX5_firstOther (nI s) σm (fun r19 s18 => R r19 s18))) → wX5_tells (nI s) l2 σm R := by
              intro R hr
              refine go _ ⟨ixs, ?_⟩
              rw [k_cl (by omega), b7]
              exact ⟨fun _ => ⟨ixs, fun _ => hr, fun z => absurd q30 z⟩, fun z => absurd z there⟩
            have riv : ∀ v : Nat, v < 100 → sOk tx.length (fset (nf (fx 3 σx)) 0 8 (nI v)) := fun v hv => hO.set8 ⟨nI_pos' (by omega), nI_le (b := 99) (by omega) (by decide)⟩
            refine ⟨fun e => ?_, fun e => ?_, fun e => ?_, fun e => ?_, fun e0 e1 e2 e3 => ?_⟩
            · subst e
              have same : fset (nf (fx 3 σx)) (kSl 0 0).1 (kSl 0 0).2 (σx.1 3 8) = nf (fx 3 σx) := by
                have e8 : σx.1 3 8 = nf (fx 3 σx) 0 8 := (nf_0 (A := fx 3 σx) (by decide) (by decide)).symm
                rw [e8]
                exact fset_self
              refine x_other (what := 0) (of := 0) (f := σx.1 (35 + s)) hs hn b6 (fun _ _ => rfl) (by decide) (fun z => absurd z (by decide)) (fun z => absurd z (by decide)) (fun z => absurd z (by decide)) a1 a4 (by rw [same]; exact hO) (fun u o => ?_)
              rw [same]
              unfold kSim
              exact into _ ⟨fun z => absurd rfl z, fun _ => m_other hs hn b7 hf a2 hO a5 (fun u2 o2 => ⟨rfl, hI0.u o o2⟩)⟩
            · subst e
              rw [a1.1]
              have hlen := a1.2.1
              have hlen6 := a1.2.2.1
              have rul : ∀ v : Nat, v < tx.length → sOk tx.length (fset (nf (fx 3 σx)) (kSl 9 0).1 (kSl 9 0).2 (nI v)) := fun v hv => hO.set12 hv
              refine x_fitting (what := 9) (of := 0) (cnt := tx.length) (f := σx.1 (35 + s)) hs hn b6 (fun _ _ => rfl) (by decide) (fun _ z => absurd z (by decide)) (fun _ z => absurd z (by decide)) (fun _ z => absurd z (by decide)) a1 a4 (by omega) rul (fun u o => ?_)
              unfold kSim
              refine into _ ⟨fun _ x13 e13 => ⟨fun z => absurd rfl z, fun _ => ⟨fun z => absurd rfl z, fun _ => ⟨fun z => absurd rfl z, fun _ => ?_⟩⟩⟩, fun z => absurd z (by decide)⟩
              have e3 : σm.1 0 3 - (1 : Int32) = nI (tx.length - 1) := by
                rw [a3, show tx.length = (tx.length - 1) + 1 by omega, nI_pred]
                rfl
              unfold wX5_tells_187
              rw [e3]
              refine m_tellsL (what := 9) (of := 0) (cnt := tx.length) (f := σx.1 (35 + s)) hs hn b7 hf a2 a5 (by decide) (fun _ z => absurd z (by decide)) (fun _ z => absurd z (by decide)) (fun _ z => absurd z (by decide)) hlen (by omega) rul a5.2.1.2.2.2.2 (fun u2 r2 v2 => ⟨fun _ => ⟨fun _ => ⟨?_, back u u2 o r2 v2⟩, fun z => absurd z (by decide)⟩, fun z => absurd z (by decide)⟩)
              exact if_neg (by decide)
            · subst e
              refine x_fitRiv (f := σx.1 (35 + s)) hs hn b6 (fun _ _ => rfl) a1 a4 riv (fun u o => ?_)
              unfold kSim
              refine into _ ⟨fun _ x13 e13 => ⟨fun _ => ⟨fun z => absurd z (by decide), fun _ => ?_⟩, fun z => absurd z (by decide)⟩, fun z => absurd z (by decide)⟩
              refine m_130 (what := 0) (of := 0) hO a5 (Or.inl rfl) (fun z => absurd z (by decide)) (fun z => absurd z (by decide)) ?_
              exact m_tellsL (what := 0) (of := 0) (cnt := 100) (f := σx.1 (35 + s)) hs hn b7 hf a2 a5 (by decide) (fun z => absurd z (by decide)) (fun z => absurd z (by decide)) (fun z => absurd z (by decide)) (by decide) (by decide) riv rfl (fun u2 r2 v2 => ⟨fun z => absurd rfl z, fun _ => ⟨rfl, back u u2 o r2 v2⟩⟩)
            · subst e
              refine x_hiRiv (f := σx.1 (35 + s)) hs hn b6 (fun _ _ => rfl) a1 a4 riv (fun u o => ?_)
              unfold kSim
              refine into _ ⟨fun _ x13 e13 => ⟨fun _ => ⟨fun z => absurd z (by decide), fun _ => ?_⟩, fun z => absurd z (by decide)⟩, fun z => absurd z (by decide)⟩
              refine m_130 (what := 0) (of := 0) hO a5 (Or.inl rfl) (fun z => absurd z (by decide)) (fun z => absurd z (by decide)) ?_
              exact m_tellsL (what := 0) (of := 0) (cnt := 100) (f := σx.1 (35 + s)) hs hn b7 hf a2 a5 (by decide) (fun z => absurd z (by decide)) (fun z => absurd z (by decide)) (fun z => absurd z (by decide)) (by decide) (by decide) riv rfl (fun u2 r2 v2 => ⟨fun _ => ⟨fun z => absurd rfl z, fun _ => ⟨rfl, back u u2 o r2 v2⟩⟩, fun z => absurd z (by decide)⟩)
            · rcases hl2 with hl2 | ⟨p', w, p1, p3, hw, e⟩
              · exfalso
                obtain ⟨m, hm, e⟩ := nI_of2 (x := l2) (M := 3) (n := 3) (by decide) (Int32.not_lt.mpr hl2.1) hl2.2
                rcases (by omega : m = 0 ∨ m = 1 ∨ m = 2 ∨ m = 3) with h | h | h | h <;> subst h
                · exact e0 e
                · exact e1 e
                · exact e2 e
                · exact e3 e
              · subst e
                obtain ⟨c1, c2, c3, c4, c5⟩ := kCn_most p1 p3
                have k8 : kTw p' ≤ 8 := by omega
                have ed := i_dec (p := p') (w := w) p3 (by omega)
                refine x_toldOfWork p1 p3 (by omega) (x_toldOfWork p1 p3 (by omega) (x_most k8 ?_))
                rw [c2, ed.2]
                have oks : ∀ v : Nat, v < kCn p' → sOk tx.length (fset (nf (fx 3 σx)) (kSl (kTw p') w).1 (kSl (kTw p') w).2 (nI v)) := fun v hv => hO.put k8 ⟨nI_pos' (by omega), by rw [c1]; exact nI_le (by omega) (by omega)⟩
                have hfit := x_fitting (tx := tx) (s := s) (n := n) (what := kTw p') (of := w) (cnt := kCn p') (lof := nI w) (f := σx.1 (35 + s)) (σ := σx) (Q := fun r29 s28 => kSim tx σm (wX5_tells (nI s) (nI (10 * p' + w)) σm) r29 s28) hs hn b6 (fun _ _ => rfl) (by omega) (fun _ _ => rfl) (fun _ z => absurd z (by omega)) (fun _ _ => by omega) a1 a4 (by omega) oks (fun u o => ?_)
                · rw [kSw_8 k8] at hfit
                  exact hfit
                · have last : ∀ R : Int32 → kS → Prop, (R (sBits (sG (sW tx) (nf (fx 3 σx)) (kTw p') w n (σx.1 (35 + s))) (kCn p')) = R (sBits (sG (sW tx) (nf (fx 3 σx)) (kTw p') w n (σx.1 (35 + s))) (kCn p'))) → (∀ u2 : kS, kInv tx u u2 → R (sBits (sG (sW tx) (nf (fx 3 σx)) (kTw p') w n (σx.1 (35 + s))) (kCn p')) u2) → wX5_tells_130 R (nI s) (nI (10 * p' + w)) (nI w) (nI (kTw p')) σm := by
                    intro R _ hr
                    refine m_130 (what := kTw p') (of := w) hO a5 (by omega) (fun _ => rfl) (fun _ => by rw [nf_works]; exact hw) ?_
                    rw [c1]
                    refine m_tellsL (what := kTw p') (of := w) (cnt := kCn p') (f := σx.1 (35 + s)) hs hn b7 hf a2 a5 (by omega) (fun _ _ => rfl) (fun _ z => absurd z (by omega)) (fun _ _ => by omega) c4 (by omega) oks rfl (fun u2 r2 v2 => ⟨fun _ => ⟨fun _ => ?_, fun z => absurd z e3⟩, fun z => absurd z e2⟩)
                    rw [if_neg (by omega)]
                    exact hr u2 (back u u2 o r2 v2)
                  unfold kSim
                  refine into _ ⟨fun _ x13 e13 => ⟨fun _ => ⟨fun z4 => ?_, fun z4 => absurd (nI_le (a := 4) (by omega) (by omega)) z4⟩, fun z => absurd z e1⟩, fun z => absurd z e0⟩
                  rw [ed.2] at e13
                  rw [e13]
                  have l3 := last (fun r' σm' => r' = sBits (sG (sW tx) (nf (fx 3 σx)) (kTw p') w n (σx.1 (35 + s))) (kCn p') ∧ kInv tx u σm') rfl (fun u2 hu2 => ⟨rfl, hu2⟩)
                  rcases (by omega : p' = 1 ∨ p' = 2 ∨ p' = 3) with h | h | h <;> subst h
                  · exact ⟨fun z => absurd z (nI_ge (b := 20) (by omega) (by decide)), fun _ => l3⟩
                  · exact ⟨fun _ => ⟨fun z => absurd z (nI_ge (b := 30) (by omega) (by decide)), fun _ => l3⟩, fun z => absurd (nI_le (a := 20) (by omega) (by omega)) z⟩
                  · exact ⟨fun _ => ⟨fun _ => l3, fun z => absurd (nI_le (a := 30) (by omega) (by omega)) z⟩, fun z => absurd (nI_le (a := 20) (by omega) (by omega)) z⟩
          · unfold kSim
            refine go _ ⟨ixs, ?_⟩
            rw [k_cl (by omega), b7]
            exact ⟨fun _ => ⟨ixs, fun z => absurd z q30, fun _ => ⟨rfl, hI0⟩⟩, fun z => absurd z there⟩
    refine x_isOfTells a4 (fun q => ⟨fun _ => ?_, fun z => absurd z (by decide)⟩) (fun p w p1 p3 hw e => ⟨fun _ => ?_, fun z => absurd z (by decide)⟩) (fun q1 q2 => ⟨fun z => absurd rfl z, fun _ => ?_⟩)
    · exact main (fun R hr => m_tells hO a5 hs (fun _ => hr) (fun _ _ _ _ _ _ => hr) (fun z => absurd q z)) (Or.inl q)
    · exact main (fun R hr => m_tells hO a5 hs (fun _ => hr) (fun _ _ _ _ _ _ => hr) (fun _ z => absurd e (z p w p1 p3 (by rw [nf_works]; exact hw)))) (Or.inr ⟨p, w, p1, p3, hw, e⟩)
    · unfold kSim
      exact m_tells hO a5 hs (fun z => absurd z q1) (fun p w p1 p3 hw e => absurd e (q2 p w p1 p3 (by rw [nf_works] at hw; exact hw))) (fun _ _ => ⟨rfl, hI0⟩)
  · unfold kSim
    exact m_isSheet (fun z => absurd z hb) (fun _ => ⟨fun _ => ⟨rfl, hI0⟩, fun z => absurd rfl z⟩)
