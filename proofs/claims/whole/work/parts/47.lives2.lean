/-! pure: a year of the reference, whole -/
theorem m_levelOf {c : Nat} {A : kFn} {σ : kS} {Q : Int32 → kS → Prop} (hR : mR A σ) (hc : c < 12) (h : Q (A 1 c + A 3 c) σ) : wX5_levelOf (nI c) σ Q := by
  unfold wX5_levelOf
  rw [n_32, n_3, k_cl (by omega), k_cl (by omega), (hR.1 c hc).1, (hR.1 c hc).2.2]
  exact ⟨k_idx (by omega) (by decide), k_idx (by omega) (by decide), h⟩
theorem k_year {A : kFn} {σ : kS} {v : Int32} (h : mR A σ) : mR (fset A 0 9 v) (kset σ 0 8 v) := by
  obtain ⟨a, ⟨b1, b2, b3, b4, b5⟩, d⟩ := h
  refine ⟨fun x hx => ?_, ⟨?_, ?_, ?_, ?_, ?_⟩, fun w hw => ?_⟩
  · rw [kset_off (by decide)]
    exact a x hx
  · rw [kset_ne (by decide)]; exact b1
  · rw [kset_at]
    rfl
  · rw [kset_ne (by decide)]; exact b3
  · rw [kset_ne (by decide)]; exact b4
  · rw [kset_ne (by decide)]; exact b5
  · rw [kset_off (by decide), kset_off (by decide)]
    exact d w hw
theorem k_paid {A : kFn} {σ : kS} {v : Int32} (h : mR A σ) : mR (fset A 0 10 v) (kset σ 0 9 v) := by
  obtain ⟨a, ⟨b1, b2, b3, b4, b5⟩, d⟩ := h
  refine ⟨fun x hx => ?_, ⟨?_, ?_, ?_, ?_, ?_⟩, fun w hw => ?_⟩
  · rw [kset_off (by decide)]
    exact a x hx
  · rw [kset_ne (by decide)]; exact b1
  · rw [kset_ne (by decide)]; exact b2
  · rw [kset_at]
    rfl
  · rw [kset_ne (by decide)]; exact b4
  · rw [kset_ne (by decide)]; exact b5
  · rw [kset_off (by decide), kset_off (by decide)]
    exact d w hw
theorem m_shrinkL {nt t : Nat} {V : Nat → (Nat → Int32) → Int32} {A0 : kFn} {σ0 : kS} {Q : kS → Prop} (hO : sOk nt A0) (hR : mR A0 σ0) (hV : mTx (σ0.1 1) (σ0.1 2) t V) (ht : A0 0 12 = nI t)
    (h : ∀ σ' : kS, mR (fset (sShrink V A0) 0 9 ((sShrink V A0) 0 9 + 1)) σ' → mO σ0 σ' → Q σ') : wX5_lives_283 Q (0 : Int32) σ0 := by
  intro P hP
  suffices key : ∀ k c : Nat, c + k = 12 → ∀ σ : kS, mR (kfor c (sShrink1 V) A0) σ → mO σ0 σ → P σ (nI c) from key 12 0 rfl σ0 hR mO.rf
  intro k
  induction k with
  | zero =>
    intro c hc σ hr ho
    have e : c = 12 := by omega
    subst e
    have hS : sShrink V A0 = kfor 12 (sShrink1 V) A0 := rfl
    rw [hS] at h
    generalize kfor 12 (sShrink1 V) A0 = B at hr h
    refine hP _ _ ⟨fun _ s42 e42 => h s42 ?_ ?_, fun q => absurd (k_at rfl) q⟩
    · have e := k_year (v := B 0 9 + 1) hr
      rw [e42, hr.2.1.2.1]
      exact e
    · rw [e42]
      exact ho.tr (mO.set0 (by omega))
  | succ k ih =>
    intro c hc σ hr ho
    have hO' := sShrinkN_ok (V := V) hO c (by omega)
    have ht' : (kfor c (sShrink1 V) A0) 0 12 = nI t := by
      rw [← ht]
      have key : ∀ n : Nat, (kfor n (sShrink1 V) A0) 0 12 = A0 0 12 := by
        intro n
        induction n with
        | zero => rfl
        | succ n ih2 =>
          refine Eq.trans ?_ ih2
          show (sShrink1 V n (kfor n (sShrink1 V) A0)) 0 12 = _
          unfold sShrink1
          split <;> rfl
      exact key c
    generalize hB : kfor c (sShrink1 V) A0 = B at hr hO' ht'
    have next : ∀ σ2 : kS, mR (sShrink1 V c B) σ2 → mO σ σ2 → ∀ x : Int32, x = nI c + (1 : Int32) → P σ2 x := by
      intro σ2 r2 o2 x ex
      rw [ex, k_n1]
      refine ih (c + 1) (by omega) σ2 ?_ (ho.tr o2)
      show mR (sShrink1 V c (kfor c (sShrink1 V) A0)) σ2
      rw [hB]
      exact r2
    refine hP _ _ ⟨fun q => absurd q (k_ge (N := 12) (by omega) (by decide) rfl), fun _ => ?_⟩
    rw [n_32, k_cl (by omega), (hr.1 c (by omega)).2.2]
    refine ⟨k_idx (by omega) (by decide), fun q => next σ (by unfold sShrink1; rw [if_neg q]; exact hr) mO.rf, fun q => ?_⟩
    refine m_standOn hO' hr (m_says (part := 1) hr (by omega) (by decide) (m_tx hV ho) ht' (fun s47 r47 o47 => ?_))
    rw [n_31, n_3, k_cl (by omega), k_cl (by omega), (r47.1 c (by omega)).1, (r47.1 c (by omega)).2.1]
    have fin : ∀ v : Int32, v = sLess V B c → wX5_lives_370 Q P (nI c) v s47 := by
      intro v hv
      unfold wX5_lives_370
      rw [n_31, n_3, k_cl (by omega), k_cl (by omega), (r47.1 c (by omega)).1]
      refine ⟨k_idx (by omega) (by decide), k_idx (by omega) (by decide), fun s57 e57 => ⟨k_idx (by omega) (by decide), k_idx (by omega) (by decide), fun s58 e58 => next s58 ?_ ?_⟩⟩
      · have e2 : s57.1 4 (3 * c + 1) = B 2 c := by
          rw [e57, kset_ne (by omega)]
          exact (r47.1 c (by omega)).2.1
        rw [e2] at e58
        unfold sShrink1
        rw [if_pos q, ← hv, e58, e57]
        have r := k_kset41 (c := c) (v := B 2 c - v) (k_kset40 (c := c) (v := B 1 c - v) r47)
        have ec : fset (fset B 1 c (B 1 c - v)) 2 c (B 2 c - v) = fset (fset B 2 c (B 2 c - v)) 1 c (B 1 c - v) := by
          funext p j
          unfold fset
          by_cases h1 : p = 1
          · subst h1
            simp
          · by_cases h2 : p = 2
            · subst h2
              simp
            · simp [h1, h2]
        rw [ec] at r
        exact r
      · rw [e58, e57]
        exact (o47.tr mO.set4).tr mO.set4
    have fin2 : ∀ m : Int32, m = sMin (B 1 c) (B 2 c) → wX5_lives_356 Q P (nI c) (sSay V B 1 c (sStand B c)) m s47 := by
      intro m hm
      have hl : sLess V B c = sMin m (sSay V B 1 c (sStand B c)) := by rw [hm]; rfl
      refine ⟨fun z => fin _ ?_, fun z => fin _ ?_⟩
      · rw [hl, ← i_min, if_pos z]
      · rw [hl, ← i_min, if_neg z]
    refine ⟨k_idx (by omega) (by decide), k_idx (by omega) (by decide), fun z => ⟨k_idx (by omega) (by decide), fin2 _ ?_⟩, fun z => ⟨k_idx (by omega) (by decide), fin2 _ ?_⟩⟩
    · unfold sMin
      split <;> grind
    · unfold sMin
      split <;> grind
theorem sDrawFrom_rule {w : Nat} {A : kFn} {c : Int32} : (sDrawFrom A w c) 0 12 = A 0 12 := by rw [sDrawFrom_row (by decide)]
theorem sDrain1_rule {V : Nat → (Nat → Int32) → Int32} {w : Nat} {A : kFn} : (sDrain1 V w A) 0 12 = A 0 12 := by
  unfold sDrain1
  split
  · split
    · show (sDrawFrom (sDrawFrom (sDrawFrom A w (A 6 w)) w (A 6 w - 1)) w (A 6 w + 1)) 0 12 = _
      rw [sDrawFrom_rule, sDrawFrom_rule, sDrawFrom_rule]
    · show (sDrawFrom A w (A 6 w)) 0 12 = _
      rw [sDrawFrom_rule]
  · rfl
theorem m_drainL {nt t : Nat} {V : Nat → (Nat → Int32) → Int32} {A0 : kFn} {σ0 : kS} {Q : kS → Prop} (hO : sOk nt A0) (hR : mR A0 σ0) (hV : mTx (σ0.1 1) (σ0.1 2) t V) (ht : A0 0 12 = nI t)
    (h : ∀ σ' : kS, mR (fset (sShrink V (sDrain V A0)) 0 9 ((sShrink V (sDrain V A0)) 0 9 + 1)) σ' → mO σ0 σ' → Q σ') : wX5_lives_186 Q (0 : Int32) σ0 := by
  have h6 := hO.works.1
  intro P hP
  have rule : ∀ n : Nat, (kfor n (sDrain1 V) A0) 0 12 = nI t := by
    intro n
    induction n with
    | zero => exact ht
    | succ n ih => exact sDrain1_rule.trans ih
  suffices key : ∀ k w : Nat, w + k = sWorks A0 → ∀ σ : kS, mR (kfor w (sDrain1 V) A0) σ → mO σ0 σ → P σ (nI w) from key (sWorks A0) 0 (by omega) σ0 hR mO.rf
  intro k
  induction k with
  | zero =>
    intro w hw σ hr ho
    have e : w = sWorks A0 := by omega
    obtain ⟨hO', hWk⟩ := sDrainN_ok (V := V) hO w (by omega)
    have hn : σ.1 0 13 = nI (sWorks A0) := by rw [hr.2.1.2.2.2.1, hO'.works.2, hWk]
    refine hP _ _ ⟨fun _ => ?_, fun q => absurd (by rw [hn, e]; exact Int32.le_refl _) q⟩
    refine m_shrinkL hO' hr (m_tx hV ho) (rule w) (fun σ2 r2 o2 => h σ2 ?_ (ho.tr o2))
    rw [e] at r2
    exact r2
  | succ k ih =>
    intro w hw σ hr ho
    obtain ⟨hO', hWk⟩ := sDrainN_ok (V := V) hO w (by omega)
    have hn : σ.1 0 13 = nI (sWorks A0) := by rw [hr.2.1.2.2.2.1, hO'.works.2, hWk]
    have ht' := rule w
    have step : ∀ σ2 : kS, mR (sDrain1 V w (kfor w (sDrain1 V) A0)) σ2 → mO σ σ2 → ∀ x : Int32, x = nI w + (1 : Int32) → P σ2 x := fun σ2 r2 o2 x ex => by
      rw [ex, k_n1]
      exact ih (w + 1) (by omega) σ2 r2 (ho.tr o2)
    generalize kfor w (sDrain1 V) A0 = B at hr hO' hWk ht' step
    have hwB : w < sWorks B := by omega
    obtain ⟨r1, r2, r3, r4⟩ := hr.2.2 w hwB
    refine hP _ _ ⟨fun q => absurd q (by rw [hn]; exact nI_ge (by omega) (by omega)), fun _ => ?_⟩
    rw [n_32, n_31, k_cl (by omega), k_cl (by omega), r4, r3]
    refine ⟨k_idx (by omega) (by decide), fun q => step σ (by unfold sDrain1; rw [if_neg q]; exact hr) mO.rf, fun q => ⟨k_idx (by omega) (by decide), fun x33 e33 => ?_⟩⟩
    have pay : ∀ (C : kFn) (s : kS), sOk nt C → mR C s → mO σ s → sWorks C = sWorks B → C 0 12 = nI t → sPay V C w = sDrain1 V w B → wX5_lives_261 Q P (nI w) s := by
      intro C s hC rC oC wC tC hpe
      refine m_costsOf hC rC (m_tx hV (ho.tr oC)) tC (by omega) (fun s52 r52 o52 s54 e54 => step s54 ?_ ?_)
      · rw [← hpe, e54, rC.2.1.2.2.1]
        exact k_paid r52
      · rw [e54]
        exact (oC.tr o52).tr (mO.set0 (by omega))
    subst e33
    refine m_draws hO' hr hwB (fun s34 r34 o34 => ⟨k_idx (by omega) (by decide), ?_⟩)
    have w34 : sWorks (sDrawFrom B w (B 6 w)) = sWorks B := sWorks_drawFrom
    have ok34 := sDrawFrom_ok (c := B 6 w) hO' hwB
    have k34 : s34.1 5 w = B 4 w := by rw [(r34.2.2 w (by omega)).1, sDrawFrom_row (by decide)]
    rw [k_cl (by omega), k34]
    have both : (B 4 w = 1 ∨ B 4 w = 4) → wX5_lives_245 Q P (nI w) (B 6 w) s34 := by
      intro hz
      refine m_draws ok34 r34 (by omega) (fun s50 r50 o50 => ?_)
      have w50 : sWorks (sDrawFrom (sDrawFrom B w (B 6 w)) w (B 6 w - 1)) = sWorks B := by rw [sWorks_drawFrom]; exact w34
      have ok50 := sDrawFrom_ok (c := B 6 w - 1) ok34 (show w < _ by omega)
      refine m_draws ok50 r50 (by omega) (fun s51 r51 o51 => pay _ s51 (sDrawFrom_ok ok50 (by omega)) r51 ((o34.tr o50).tr o51) ?_ ?_ ?_)
      · rw [sWorks_drawFrom]
        exact w50
      · rw [sDrawFrom_rule, sDrawFrom_rule, sDrawFrom_rule]
        exact ht'
      · unfold sDrain1
        rw [if_pos q, if_pos hz]
    refine ⟨fun q1 => both (Or.inl q1), fun q1 => ⟨k_idx (by omega) (by decide), fun q4 => ?_, fun q4 => both (Or.inr q4)⟩⟩
    refine pay _ s34 ok34 r34 o34 w34 ?_ ?_
    · rw [sDrawFrom_rule]
      exact ht'
    · unfold sDrain1
      rw [if_pos q, if_neg (fun z => z.elim q1 q4)]
theorem sFlow1_rule {A : kFn} {c : Nat} : (sFlow1 A c) 0 = A 0 := by
  unfold sFlow1
  split <;> rfl
theorem sRiver_rule {A : kFn} : (sRiver A) 0 = A 0 := by
  unfold sRiver
  split
  · rfl
  · split <;> rfl
theorem m_flowL {nt t : Nat} {V : Nat → (Nat → Int32) → Int32} {A0 : kFn} {σ0 : kS} {Q : kS → Prop} (hO : sOk nt A0) (hR : mR A0 σ0) (hV : mTx (σ0.1 1) (σ0.1 2) t V) (ht : A0 0 12 = nI t)
    (h : ∀ σ' : kS, mR (fset (sShrink V (sDrain V (sFlow A0))) 0 9 ((sShrink V (sDrain V (sFlow A0))) 0 9 + 1)) σ' → mO σ0 σ' → Q σ') : wX5_lives_33 Q (11 : Int32) σ0 := by
  intro P hP
  have keep : ∀ n : Nat, n ≤ 11 → sOk nt (kfor n (fun i B => sFlow1 B (11 - i)) A0) ∧ (kfor n (fun i B => sFlow1 B (11 - i)) A0) 0 = A0 0 := by
    intro n
    induction n with
    | zero => exact fun _ => ⟨hO, rfl⟩
    | succ n ih => exact fun hn => ⟨sFlow1_ok (ih (by omega)).1 (by omega) (by omega), sFlow1_rule.trans (ih (by omega)).2⟩
  suffices key : ∀ c k : Nat, c + k = 11 → ∀ σ : kS, mR (kfor k (fun i B => sFlow1 B (11 - i)) A0) σ → mO σ0 σ → P σ (nI c) from key 11 0 rfl σ0 hR mO.rf
  intro c
  induction c with
  | zero =>
    intro k hk σ hr ho
    have e : k = 11 := by omega
    subst e
    obtain ⟨hO', hz⟩ := keep 11 (by omega)
    have fin : ∀ σ2 : kS, mR (sRiver (kfor 11 (fun i B => sFlow1 B (11 - i)) A0)) σ2 → mO σ σ2 → wX5_lives_186 Q (0 : Int32) σ2 := by
      intro σ2 r2 o2
      refine m_drainL (sRiver_ok hO') r2 (m_tx hV (ho.tr o2)) ?_ (fun σ3 r3 o3 => h σ3 r3 ((ho.tr o2).tr o3))
      rw [sRiver_rule, hz]
      exact ht
    generalize kfor 11 (fun i B => sFlow1 B (11 - i)) A0 = B at hr hO' hz fin
    have ha := hO'.1 0 (by decide)
    refine hP _ _ ⟨fun _ => m_levelOf (c := 0) hr (by decide) (fun x11 e11 => ?_), fun q => absurd (Int32.le_refl _) q⟩
    rw [hr.2.1.1] at e11
    refine ⟨fun q => ?_, fun q => ?_⟩
    · have z : ¬ 0 < B 1 0 + B 3 0 - B 0 8 := by rw [← e11]; grind
      have hpos : 0 ≤ B 3 0 + -x11 / 2 := by
        have := i_neghalf (x := x11) (by rw [e11]; exact z) (by rw [e11]; exact i_offlow ha.1 ha.2.2 hO'.2.1)
        have hw := ha.2.2
        generalize B 3 0 = w at hw ⊢
        generalize -x11 / 2 = m at this ⊢
        grind
      refine m_isHeld (c := 0) hO' hr (by decide) (fun hh => ⟨fun _ => fin σ ?_ mO.rf, fun z => absurd z (by decide)⟩) (fun hh => ⟨fun z => absurd rfl z, fun _ => m_adds (c := 0) hr (by decide) hpos (fun s16 r16 o16 => fin s16 ?_ o16)⟩)
      · unfold sRiver
        rw [if_neg z, if_pos hh]
        exact hr
      · unfold sRiver
        rw [if_neg z, if_neg (by rw [hh]; decide), ← e11]
        exact r16
    · have z : 0 < B 1 0 + B 3 0 - B 0 8 := by rw [← e11]; grind
      have hh := i_half (x := x11) (by rw [e11]; exact z)
      have hm := sMin_in ha.2.2.1 hh.1
      have go : ∀ f : Int32, f = sMin (B 3 0) (x11 / 2) → wX5_lives_160 Q f (0 : Int32) σ := by
        intro f hf
        have hp : 0 ≤ B 3 0 + -f := by
          have hw := ha.2.2
          rw [← hf] at hm
          generalize B 3 0 = w at hw hm ⊢
          grind
        refine m_adds (c := 0) hr (by decide) hp (fun s37 r37 o37 => fin s37 ?_ o37)
        rw [sMin_neg hO' (by decide) (by rw [hf]; exact ⟨hm.1, hm.2.1⟩)] at r37
        unfold sRiver
        rw [if_pos z, ← e11, ← hf]
        exact r37
      have e4 : σ.1 4 (2 : Int32).toNatClampNeg = B 3 0 := by
        have : (2 : Int32).toNatClampNeg = 2 := by decide
        rw [this]
        exact (hr.1 0 (by decide)).2.2
      rw [e4]
      refine ⟨fun q2 => go _ ?_, fun q2 => go _ ?_⟩
      · rw [← i_min, if_pos q2]
      · rw [← i_min, if_neg q2]
  | succ c ih =>
    intro k hk σ hr ho
    obtain ⟨hO', hz⟩ := keep k (by omega)
    have em : nI (c + 1) - (1 : Int32) = nI c := k_s1
    have next : ∀ σ2 : kS, mR (sFlow1 (kfor k (fun i B => sFlow1 B (11 - i)) A0) (c + 1)) σ2 → mO σ σ2 → ∀ x : Int32, x = nI (c + 1) + (-1 : Int32) → P σ2 x := by
      intro σ2 r2 o2 x ex
      rw [ex, k_m1]
      refine ih (k + 1) (by omega) σ2 ?_ (ho.tr o2)
      show mR (sFlow1 (kfor k (fun i B => sFlow1 B (11 - i)) A0) (11 - k)) σ2
      rw [show 11 - k = c + 1 by omega]
      exact r2
    generalize kfor k (fun i B => sFlow1 B (11 - i)) A0 = B at hr hO' hz next
    have ha := hO'.1 (c + 1) (by omega)
    have hb := hO'.1 c (by omega)
    refine hP _ _ ⟨fun q => absurd q (nI_nle (by omega) (by omega)), fun _ => m_levelOf hr (by omega) ?_⟩
    rw [em]
    refine m_levelOf hr (by omega) (fun x22 e22 => ?_)
    have ec : c + 1 - 1 = c := by omega
    have e22 : x22 = B 1 (c + 1) + B 3 (c + 1) - B 1 c - B 3 c := by rw [e22]; grind
    refine ⟨fun q => next σ ?_ mO.rf, fun q => ?_⟩
    · unfold sFlow1
      rw [ec, if_neg]
      · exact hr
      · rintro ⟨z, -⟩
        rw [← e22] at z
        grind
    · refine m_isHeld hO' hr (by omega) (fun hh => ⟨fun _ => next σ ?_ mO.rf, fun z => absurd z (by decide)⟩) (fun hh => ⟨fun z => absurd rfl z, fun _ => ?_⟩)
      · unfold sFlow1
        rw [ec, if_neg]
        · exact hr
        · rintro ⟨-, z⟩
          rw [hh] at z
          exact absurd z (by decide)
      · have hz2 : 0 < B 1 (c + 1) + B 3 (c + 1) - B 1 c - B 3 c ∧ sHeld B c = false := ⟨by rw [← e22]; grind, hh⟩
        have hhf := i_half (x := x22) (by rw [e22]; exact hz2.1)
        have hm := sMin_in ha.2.2.1 hhf.1
        have go : ∀ f : Int32, f = sMin (B 3 (c + 1)) (x22 / 2) → wX5_lives_97 Q P (nI (c + 1)) f σ := by
          intro f hf
          rw [← hf] at hm
          have hp : 0 ≤ B 3 (c + 1) + -f := by
            have hw := ha.2.2
            generalize B 3 (c + 1) = w at hw hm ⊢
            grind
          unfold wX5_lives_97
          rw [em]
          refine m_adds hr (by omega) hp (fun s38 r38 o38 => ?_)
          rw [sMin_neg hO' (by omega) ⟨hm.1, hm.2.1⟩] at r38
          have hp2 : 0 ≤ (fset B 3 (c + 1) (B 3 (c + 1) - f)) 3 c + f := by
            have e3 : (fset B 3 (c + 1) (B 3 (c + 1) - f)) 3 c = B 3 c := by
              unfold fset
              rw [if_pos rfl, if_neg (by omega)]
            rw [e3]
            have hw := hb.2.2
            have hw2 := ha.2.2
            generalize B 3 (c + 1) = w2 at hw2 hm
            generalize B 3 c = w at hw ⊢
            grind
          refine m_adds r38 (by omega) hp2 (fun s39 r39 o39 => next s39 ?_ (o38.tr o39))
          unfold sFlow1
          rw [ec, if_pos hz2, ← e22, ← hf]
          exact r39
        rw [n_32, k_cl (by omega), (hr.1 (c + 1) (by omega)).2.2]
        refine ⟨k_idx (by omega) (by decide), fun q2 => ⟨k_idx (by omega) (by decide), go _ ?_⟩, fun q2 => go _ ?_⟩
        · rw [← i_min, if_pos q2]
        · rw [← i_min, if_neg q2]
theorem sRain_rule {V : Nat → (Nat → Int32) → Int32} {A : kFn} : ∀ n : Nat, (kfor n (fun c B => sPour B c (sSay V B 0 c (sStand B c))) A) 0 = A 0 := by
  intro n
  induction n with
  | zero => rfl
  | succ n ih => exact ih
theorem m_lives {nt t : Nat} {V : Nat → (Nat → Int32) → Int32} {A : kFn} {σ : kS} {Q : kS → Prop} (hO : sOk nt A) (hR : mR A σ) (hV : mTx (σ.1 1) (σ.1 2) t V) (ht : A 0 12 = nI t) (h : ∀ σ' : kS, mR (sYear V A) σ' → mO σ σ' → Q σ') : wX5_lives σ Q := by
  intro P hP
  have keep : ∀ n : Nat, n ≤ 12 → sOk nt (kfor n (fun c B => sPour B c (sSay V B 0 c (sStand B c))) A) := by
    intro n
    induction n with
    | zero => exact fun _ => hO
    | succ n ih =>
      intro hn
      refine sPour_ok (ih (by omega)) (by omega) ?_
      have := sSay_in (V := V) (A := kfor n (fun c B => sPour B c (sSay V B 0 c (sStand B c))) A) (p := 0) (c := n) (num := sStand (kfor n (fun c B => sPour B c (sSay V B 0 c (sStand B c))) A) n) (by decide)
      generalize sSay V (kfor n (fun c B => sPour B c (sSay V B 0 c (sStand B c))) A) 0 n (sStand (kfor n (fun c B => sPour B c (sSay V B 0 c (sStand B c))) A) n) = m at this ⊢
      grind
  suffices key : ∀ k c : Nat, c + k = 12 → ∀ σ1 : kS, mR (kfor c (fun c B => sPour B c (sSay V B 0 c (sStand B c))) A) σ1 → mO σ σ1 → P σ1 (nI c) from key 12 0 rfl σ hR mO.rf
  intro k
  induction k with
  | zero =>
    intro c hc σ1 hr ho
    have e : c = 12 := by omega
    subst e
    refine hP _ _ ⟨fun _ => ?_, fun q => absurd (k_at rfl) q⟩
    exact m_flowL (keep 12 (by omega)) hr (m_tx hV ho) (by rw [sRain_rule]; exact ht) (fun σ2 r2 o2 => h σ2 r2 (ho.tr o2))
  | succ k ih =>
    intro c hc σ1 hr ho
    have hO' := keep c (by omega)
    have ht' : (kfor c (fun c B => sPour B c (sSay V B 0 c (sStand B c))) A) 0 12 = nI t := by rw [sRain_rule]; exact ht
    have next := fun σ2 r2 o2 => ih (c + 1) (by omega) σ2 r2 (ho.tr o2)
    have hstep : kfor (c + 1) (fun c B => sPour B c (sSay V B 0 c (sStand B c))) A = (fun c B => sPour B c (sSay V B 0 c (sStand B c))) c (kfor c (fun c B => sPour B c (sSay V B 0 c (sStand B c))) A) := rfl
    rw [hstep] at next
    generalize kfor c (fun c B => sPour B c (sSay V B 0 c (sStand B c))) A = B at hr hO' ht' next
    refine hP _ _ ⟨fun q => absurd q (k_ge (N := 12) (by omega) (by decide) rfl), fun _ => ?_⟩
    refine m_standOn hO' hr (m_says (part := 0) hr (by omega) (by decide) (m_tx hV ho) ht' (fun s4 r4 o4 => ?_))
    have hs := sSay_in (V := V) (A := B) (p := 0) (c := c) (num := sStand B c) (by decide)
    have hw := (hO'.1 c (by omega)).2.2
    refine m_adds r4 (by omega) ?_ (fun s6 r6 o6 x7 e7 => ?_)
    · generalize sSay V B 0 c (sStand B c) = m at hs ⊢
      generalize B 3 c = w at hw ⊢
      grind
    · rw [e7, k_n1]
      exact next s6 r6 (o4.tr o6)
