/-! pure: the year of the class's fen, on: flow, river, works, shrinking -/
theorem sHeldN_set {A : kFn} {r i : Nat} {v : Int32} (hr : r < 4) (d : Nat) : ∀ n : Nat, sHeldN (fset A r i v) d n = sHeldN A d n := by
  intro n
  have e4 : (fset A r i v) 4 = A 4 := by
    funext j
    exact if_neg (by omega)
  have e6 : (fset A r i v) 6 = A 6 := by
    funext j
    exact if_neg (by omega)
  have e7 : (fset A r i v) 7 = A 7 := by
    funext j
    exact if_neg (by omega)
  induction n with
  | zero => rfl
  | succ n ih =>
    unfold sHeldN
    rw [ih, e4, e6, e7]
theorem sHeld_set3 {A : kFn} {c d : Nat} {v : Int32} : sHeld (fset A 3 c v) d = sHeld A d := sHeldN_set (by omega) d _
theorem sHeld_pour {A : kFn} {c d : Nat} {m : Int32} : sHeld (sPour A c m) d = sHeld A d := sHeld_set3
theorem sHeld_flow1 {A : kFn} {c d : Nat} : sHeld (sFlow1 A c) d = sHeld A d := by
  unfold sFlow1
  split
  · rw [sHeld_pour, sHeld_set3]
  · rfl
theorem sMin_in {x y : Int32} (hx : 0 ≤ x) (hy : 0 ≤ y) : 0 ≤ sMin x y ∧ sMin x y ≤ x ∧ sMin x y ≤ y := by
  unfold sMin
  split <;> grind
theorem i_subin {w f : Int32} (hw : 0 ≤ w ∧ w ≤ 999) (hf : 0 ≤ f ∧ f ≤ w) : (0 ≤ w - f ∧ w - f ≤ 999) ∧ 0 ≤ f ∧ f ≤ 9999 := by grind
theorem i_offlow {h w r : Int32} (h1 : 0 ≤ h ∧ h ≤ 99) (h2 : 0 ≤ w ∧ w ≤ 999) (h3 : 0 ≤ r ∧ r ≤ 99) : -2000 ≤ h + w - r := by grind
theorem sFlow1_ok {nt c : Nat} {A : kFn} (h : sOk nt A) (h0 : 0 < c) (hc : c < 12) : sOk nt (sFlow1 A c) := by
  unfold sFlow1
  split
  · rename_i hq
    have hh := i_half hq.1
    have hw := (h.1 c hc).2.2
    have hm := sMin_in hw.1 hh.1
    have hs := i_subin hw ⟨hm.1, hm.2.1⟩
    exact sPour_ok (h.set3 hs.1) (by omega) hs.2
  · exact h
theorem sRiver_ok {nt : Nat} {A : kFn} (h : sOk nt A) : sOk nt (sRiver A) := by
  have ha := h.1 0 (by decide)
  have hr := h.2.1
  unfold sRiver
  split
  · rename_i hq
    have hh := i_half hq
    have hm := sMin_in ha.2.2.1 hh.1
    exact h.set3 (i_subin ha.2.2 ⟨hm.1, hm.2.1⟩).1
  · rename_i hq
    split
    · exact h
    · exact sPour_ok h (by decide) (i_neghalf hq (i_offlow ha.1 ha.2.2 hr))
theorem sFlow_ok {nt : Nat} {A : kFn} (h : sOk nt A) : sOk nt (sFlow A) := by
  have key : ∀ n : Nat, n ≤ 11 → sOk nt (kfor n (fun i B => sFlow1 B (11 - i)) A) := by
    intro n
    induction n with
    | zero => exact fun _ => h
    | succ n ih => exact fun hn => sFlow1_ok (ih (by omega)) (by omega) (by omega)
  exact sRiver_ok (key 11 (by omega))
theorem k_z : (0 : Int32).toNatClampNeg = 0 := by decide
theorem i_nle {x y : Int32} : ¬ x ≤ y ↔ y < x := by grind
theorem x_meetRiver {nt b : Nat} {l1 : Int32} {σ : kS} {Q : kS → Prop} (hl : (l1 = 0 ∧ sHeld (fx b σ) 0 = false) ∨ (l1 = 1 ∧ sHeld (fx b σ) 0 = true)) (h : ∀ σ' : kS, fx b σ' = sRiver (fx b σ) → xO b σ σ' → Q σ') : wX0_meetRiver b l1 σ Q := by
  unfold wX0_meetRiver
  rw [k_z]
  intro x1 e1
  have e1 : x1 = fx b σ 1 0 + fx b σ 3 0 - fx b σ 0 8 := e1
  unfold sRiver at h
  refine ⟨fun q => ⟨fun q2 => ?_, fun q2 => ?_⟩, fun q s5 e5 => ?_⟩
  · have z : ¬ 0 < fx b σ 1 0 + fx b σ 3 0 - fx b σ 0 8 := by rw [← e1]; grind
    rcases hl with ⟨e, hh⟩ | ⟨e, hh⟩
    · exact absurd e q2
    · rw [if_neg z, if_pos hh] at h
      exact h σ rfl xO.rf
  · have z : ¬ 0 < fx b σ 1 0 + fx b σ 3 0 - fx b σ 0 8 := by rw [← e1]; grind
    rcases hl with ⟨e, hh⟩ | ⟨e, hh⟩
    · rw [if_neg z, if_neg (by rw [hh]; decide), ← e1] at h
      exact x_pour (c := 0) (by decide) h
    · rw [q2] at e
      exact absurd e (by decide)
  · have z : 0 < fx b σ 1 0 + fx b σ 3 0 - fx b σ 0 8 := by rw [← e1]; grind
    rw [if_pos z, ← e1] at h
    refine h s5 ?_ ?_
    · rw [e5, fx_set (by omega)]
      rfl
    · rw [e5]
      exact xO.set (by omega)
theorem x_flow {nt b : Nat} {σ : kS} {Q : kS → Prop} (hO : sOk nt (fx b σ)) (h : ∀ σ' : kS, fx b σ' = sFlow (fx b σ) → xO b σ σ' → Q σ') : wX0_flow b σ Q := by
  refine x_heldCells hO (fun r hr P hP => ?_)
  suffices key : ∀ c k : Nat, c + k = 11 → ∀ σ' : kS, fx b σ' = kfor k (fun i B => sFlow1 B (11 - i)) (fx b σ) → (∀ d : Nat, d < 12 → bt r d = sHeld (fx b σ') d) → sOk nt (fx b σ') → xO b σ σ' → P σ' (nI c) from key 11 0 rfl σ rfl hr hO xO.rf
  intro c
  induction c with
  | zero =>
    intro k hk σ' hf hb hO' ho
    have e : k = 11 := by omega
    subst e
    have fin : ∀ σ2 : kS, fx b σ2 = sRiver (fx b σ') → xO b σ' σ2 → Q σ2 := fun σ2 f2 o2 => h σ2 (by rw [f2, hf]; rfl) (ho.tr o2)
    refine hP _ _ ⟨fun _ => ⟨fun q => ?_, fun q => ?_⟩, fun q => absurd (Int32.le_refl _) q⟩
    · exact x_meetRiver (nt := nt) (Or.inl ⟨rfl, by rw [← hb 0 (by decide)]; exact b_test0.mp q⟩) fin
    · refine x_meetRiver (nt := nt) (Or.inr ⟨rfl, ?_⟩) fin
      rw [← hb 0 (by decide)]
      cases hz : bt r 0 with
      | true => rfl
      | false => exact absurd (b_test0.mpr hz) q
  | succ c ih =>
    intro k hk σ' hf hb hO' ho
    have em : nI (c + 1) - (1 : Int32) = nI c := k_s1
    have next : ∀ σ2 : kS, fx b σ2 = sFlow1 (fx b σ') (c + 1) → xO b σ' σ2 → ∀ x : Int32, x = nI (c + 1) + (-1 : Int32) → P σ2 x := by
      intro σ2 f2 o2 x ex
      rw [ex, k_m1]
      refine ih (k + 1) (by omega) σ2 ?_ ?_ ?_ (ho.tr o2)
      · show _ = sFlow1 (kfor k (fun i B => sFlow1 B (11 - i)) (fx b σ)) (11 - k)
        rw [f2, hf, show 11 - k = c + 1 by omega]
      · intro d hd
        rw [f2, sHeld_flow1]
        exact hb d hd
      · rw [f2]
        exact sFlow1_ok hO' (by omega) (by omega)
    refine hP _ _ ⟨fun q => absurd q (nI_nle (by omega) (by omega)), fun _ => ?_⟩
    rw [em]
    refine ⟨k_idx (by omega) (by decide), k_idx (by omega) (by decide), k_idx (by omega) (by decide), k_idx (by omega) (by decide), fun x5 e5 => ?_⟩
    rw [k_cl (by omega), k_cl (by omega)] at e5
    rw [k_cl (by omega)]
    have e5 : x5 = fx b σ' 1 (c + 1) + fx b σ' 3 (c + 1) - fx b σ' 1 c - fx b σ' 3 c := e5
    have ec : c + 1 - 1 = c := by omega
    refine ⟨fun q => next σ' ?_ xO.rf, fun q => ⟨fun q2 => next σ' ?_ xO.rf, fun q2 => ⟨k_idx (by omega) (by decide), fun x10 e10 => ⟨k_idx (by omega) (by decide), k_idx (by omega) (by decide), fun s11 e11 => ?_⟩⟩⟩⟩
    · unfold sFlow1
      rw [ec, if_neg]
      rintro ⟨z, -⟩
      rw [← e5] at z
      grind
    · unfold sFlow1
      rw [ec, if_neg]
      rintro ⟨-, z⟩
      exact q2 ((b_test (by omega)).mpr (by rw [hb c (by omega)]; exact z))
    · have hz : 0 < fx b σ' 1 (c + 1) + fx b σ' 3 (c + 1) - fx b σ' 1 c - fx b σ' 3 c ∧ sHeld (fx b σ') c = false := ⟨by rw [← e5]; grind, by rw [← hb c (by omega)]; exact (b_test (by omega)).mp q2⟩
      have f11 : fx b s11 = fset (fx b σ') 3 (c + 1) (fx b σ' 3 (c + 1) - x10) := by
        rw [e11, fx_set (by omega)]
        rfl
      refine x_pour (by omega) (fun s12 f12 o12 => next s12 ?_ ?_)
      · rw [f12, f11]
        unfold sFlow1
        rw [ec, if_pos hz, ← e5, e10]
        rfl
      · refine xO.tr ?_ o12
        rw [e11]
        exact xO.set (by omega)
theorem sWant_nn {nt w c : Nat} {A : kFn} (h : sOk nt A) (hw : w < sWorks A) (hc : c < 12) : 0 ≤ sWant A w c := by
  have h1 := (h.2.2.2.2 w hw).2.1
  have h2 := (h.1 c hc).2.2
  have h3 : 0 ≤ A 3 c / 2 ∧ A 3 c / 2 ≤ A 3 c := by
    by_cases z : 0 < A 3 c
    · exact i_half z
    · have : A 3 c = 0 := by grind
      rw [this]
      decide
  unfold sWant
  split
  · split <;> grind
  · split
    · grind
    · split
      · split
        · decide
        · split <;> grind
      · split
        · grind
        · split
          · decide
          · grind
theorem sDraw_in {nt w c : Nat} {A : kFn} (h : sOk nt A) (hw : w < sWorks A) (hc : c < 12) : 0 ≤ sDraw A w c ∧ sDraw A w c ≤ A 3 c := by
  have := sMin_in (h.1 c hc).2.2.1 (sWant_nn h hw hc)
  exact ⟨this.1, this.2.1⟩
theorem sDrawFrom_ok {nt w : Nat} {A : kFn} {c : Int32} (h : sOk nt A) (hw : w < sWorks A) : sOk nt (sDrawFrom A w c) := by
  unfold sDrawFrom
  split
  · exact h
  · split
    · exact h
    · rename_i q1 q2
      obtain ⟨n, hn, rfl⟩ := nI_of2 (M := 11) (n := 11) (by decide) q1 (by grind)
      rw [k_cl (by omega)]
      have h1 := sDraw_in (c := n) h hw (by omega)
      have h2 := (h.1 n (by omega)).2.2
      refine h.set3 ?_
      grind
theorem sWorks_drawFrom {w : Nat} {A : kFn} {c : Int32} : sWorks (sDrawFrom A w c) = sWorks A := by
  unfold sDrawFrom
  split
  · rfl
  · split <;> rfl
theorem sDrawFrom_row {w r : Nat} {A : kFn} {c : Int32} (hr : r ≠ 3) : (sDrawFrom A w c) r = A r := by
  unfold sDrawFrom
  split
  · rfl
  · split
    · rfl
    · funext j
      exact if_neg hr
theorem x_drawFrom {nt b w : Nat} {c : Int32} {σ : kS} {Q : kS → Prop} (hO : sOk nt (fx b σ)) (hw : w < sWorks (fx b σ)) (h : ∀ σ' : kS, fx b σ' = sDrawFrom (fx b σ) w c → xO b σ σ' → Q σ') : wX0_drawFrom b (nI w) c σ Q := by
  unfold sDrawFrom at h
  refine x_isCell (fun q => ⟨fun z => absurd z (by decide), fun _ => ?_⟩) (fun q => ⟨fun _ => ?_, fun z => absurd rfl z⟩)
  · rw [if_neg (by grind), if_neg (by grind)] at h
    obtain ⟨n, hn, rfl⟩ := nI_of2 (x := c) (M := 11) (n := 11) (by decide) (by grind) (by grind)
    rw [k_cl (by omega)] at h
    refine ⟨k_idx (by omega) (by decide), x_draws hO hw (by omega) ⟨k_idx (by omega) (by decide), fun s5 e5 => ?_⟩⟩
    rw [k_cl (by omega)] at e5
    refine h s5 ?_ ?_
    · rw [e5, fx_set (by omega)]
      rfl
    · rw [e5]
      exact xO.set (by omega)
  · by_cases z : c < 0
    · rw [if_pos z] at h
      exact h σ rfl xO.rf
    · rw [if_neg z, if_pos (by grind)] at h
      exact h σ rfl xO.rf
theorem x_costs {nt b w : Nat} {T : kTxt} {σ : kS} {Q : Int32 → kS → Prop} (hO : sOk nt (fx b σ)) (hT : tOk T) (hw : w < sWorks (fx b σ)) (h : ∀ σ' : kS, fx b σ' = fx b σ → xO b σ σ' → Q (sCost (xV T) (fx b σ) w) σ') : wX0_costs b T (nI w) σ Q := by
  obtain ⟨h6, hn⟩ := hO.works
  have hn : σ.1 b 11 = nI (sWorks (fx b σ)) := hn
  have hiw : vp_in (nI w) 6 := k_idx (by omega) (by decide)
  obtain ⟨p, hp, ep⟩ := (hO.2.2.2.2 w hw).2.2.1
  have ep' : σ.1 (b + 6) w = nI p := ep
  refine ⟨fun q => absurd q (k_nn (by omega)), fun _ => ⟨fun _ => ⟨hiw, ?_⟩, fun q => absurd (by rw [hn]; exact nI_lt hw (by omega)) q⟩⟩
  rw [k_cl (by omega), ep']
  refine x_says (part := 2) (num := fx b σ 5 w) hO hp (by decide) (hT 2 (by decide)) (Or.inr ⟨w, by omega, rfl, rfl⟩) (fun s3 f3 o3 => ⟨hiw, ?_⟩)
  have h := h s3 f3 o3
  unfold sCost at h
  rw [show (fx b σ 6 w).toNatClampNeg = p by rw [ep]; exact k_cl (by omega)] at h
  have e4 : s3.1 (b + 4) w = fx b σ 4 w := by rw [← f3]; rfl
  have e5 : s3.1 (b + 5) w = fx b σ 5 w := by rw [← f3]; rfl
  rw [e4, e5]
  refine ⟨fun q => ?_, fun q => ?_, fun q => ⟨hiw, ?_⟩, fun q => ⟨hiw, ?_⟩, fun q1 q2 q3 q4 => ?_⟩
  · rw [if_pos q] at h
    exact h
  · rw [q, if_neg (by decide), if_pos rfl] at h
    exact h
  · rw [q, if_neg (by decide), if_neg (by decide), if_pos rfl] at h
    exact h
  · rw [q, if_neg (by decide), if_neg (by decide), if_neg (by decide), if_pos rfl] at h
    exact h
  · rw [if_neg q1, if_neg q2, if_neg q3, if_neg q4] at h
    exact h
theorem sDrain1_ok {nt w : Nat} {V : Nat → (Nat → Int32) → Int32} {A : kFn} (h : sOk nt A) (hw : w < sWorks A) : sOk nt (sDrain1 V w A) ∧ sWorks (sDrain1 V w A) = sWorks A := by
  unfold sDrain1
  split
  · split
    · have h1 := sDrawFrom_ok (c := A 6 w) h hw
      have h2 := sDrawFrom_ok (c := A 6 w - 1) h1 (by rw [sWorks_drawFrom]; exact hw)
      have h3 := sDrawFrom_ok (c := A 6 w + 1) h2 (by rw [sWorks_drawFrom, sWorks_drawFrom]; exact hw)
      refine ⟨h3.set10, ?_⟩
      show sWorks (sDrawFrom (sDrawFrom (sDrawFrom A w (A 6 w)) w (A 6 w - 1)) w (A 6 w + 1)) = _
      rw [sWorks_drawFrom, sWorks_drawFrom, sWorks_drawFrom]
    · refine ⟨(sDrawFrom_ok (c := A 6 w) h hw).set10, ?_⟩
      show sWorks (sDrawFrom A w (A 6 w)) = _
      rw [sWorks_drawFrom]
  · exact ⟨h, rfl⟩
theorem sDrainN_ok {nt : Nat} {V : Nat → (Nat → Int32) → Int32} {A : kFn} (h : sOk nt A) : ∀ n : Nat, n ≤ sWorks A → sOk nt (kfor n (sDrain1 V) A) ∧ sWorks (kfor n (sDrain1 V) A) = sWorks A := by
  intro n
  induction n with
  | zero => exact fun _ => ⟨h, rfl⟩
  | succ n ih =>
    intro hn
    obtain ⟨h1, h2⟩ := ih (by omega)
    have h3 := sDrain1_ok (V := V) h1 (show n < _ by omega)
    exact ⟨h3.1, h3.2.trans h2⟩
theorem x_drain {nt b : Nat} {T : kTxt} {σ : kS} {Q : kS → Prop} (hO : sOk nt (fx b σ)) (hT : tOk T) (h : ∀ σ' : kS, fx b σ' = sDrain (xV T) (fx b σ) → xO b σ σ' → Q σ') : wX0_drain b T σ Q := by
  have h6 := hO.works.1
  intro P hP
  suffices key : ∀ k w : Nat, w + k = 6 → ∀ σ' : kS, fx b σ' = kfor (min w (sWorks (fx b σ))) (sDrain1 (xV T)) (fx b σ) → xO b σ σ' → P σ' (nI w) from key 6 0 rfl σ (by rw [Nat.zero_min]; rfl) xO.rf
  intro k
  induction k with
  | zero =>
    intro w hw σ' hf ho
    have e : w = 6 := by omega
    subst e
    rw [show min 6 (sWorks (fx b σ)) = sWorks (fx b σ) by omega] at hf
    exact hP _ _ ⟨fun _ => h σ' hf ho, fun q => absurd (k_at rfl) q⟩
  | succ k ih =>
    intro w hw σ' hf ho
    obtain ⟨hO', hWk⟩ := sDrainN_ok (V := xV T) hO (min w (sWorks (fx b σ))) (by omega)
    rw [← hf] at hO' hWk
    have next : ∀ σ2 : kS, fx b σ2 = (if w < sWorks (fx b σ) then sDrain1 (xV T) w (fx b σ') else fx b σ') → xO b σ' σ2 → ∀ x : Int32, x = nI w + (1 : Int32) → P σ2 x := by
      intro σ2 f2 o2 x ex
      rw [ex, k_n1]
      refine ih (w + 1) (by omega) σ2 ?_ (ho.tr o2)
      rw [f2]
      by_cases hlt : w < sWorks (fx b σ)
      · rw [if_pos hlt, hf, show min w (sWorks (fx b σ)) = w by omega, show min (w + 1) (sWorks (fx b σ)) = w + 1 by omega]
        rfl
      · rw [if_neg hlt, hf, show min w (sWorks (fx b σ)) = min (w + 1) (sWorks (fx b σ)) by omega]
    refine hP _ _ ⟨fun q => absurd q (k_ge (N := 6) (by omega) (by decide) rfl), fun _ => x_goes hO' (by omega) ⟨fun q => next σ' ?_ xO.rf, fun q => ?_⟩⟩
    · by_cases hlt : w < sWorks (fx b σ)
      · rw [if_pos hlt]
        unfold sDrain1
        rw [if_neg]
        intro z
        rw [if_pos ⟨by omega, z⟩] at q
        exact absurd q (by decide)
      · rw [if_neg hlt]
    · have hg : w < sWorks (fx b σ') ∧ fx b σ' 7 w = 1 := by
        by_cases z : w < sWorks (fx b σ') ∧ fx b σ' 7 w = 1
        · exact z
        · rw [if_neg z] at q
          exact absurd rfl q
      have hiw : vp_in (nI w) 6 := k_idx (by omega) (by decide)
      rw [k_cl (by omega)]
      refine ⟨hiw, x_drawFrom hO' hg.1 (fun s6 f6 o6 => ⟨hiw, ?_⟩)⟩
      have e6 : σ'.1 (b + 6) w = fx b σ' 6 w := rfl
      rw [e6] at f6
      have w6 : sWorks (fx b s6) = sWorks (fx b σ') := by rw [f6]; exact sWorks_drawFrom
      have ok6 : sOk nt (fx b s6) := by rw [f6]; exact sDrawFrom_ok hO' hg.1
      have k6 : s6.1 (b + 4) w = fx b σ' 4 w := by
        show fx b s6 4 w = _
        rw [f6, sDrawFrom_row (by decide)]
      have p6 : s6.1 (b + 6) w = fx b σ' 6 w := by
        show fx b s6 6 w = _
        rw [f6, sDrawFrom_row (by decide)]
      have pay : ∀ s : kS, sOk nt (fx b s) → sWorks (fx b s) = sWorks (fx b σ') → xO b σ' s → sPay (xV T) (fx b s) w = sDrain1 (xV T) w (fx b σ') → wX0_drain_65 b T Q P (nI w) s := by
        intro s hs hws hos hpe
        refine x_costs hs hT (by omega) (fun s11 f11 o11 s13 e13 x14 e14 => ?_)
        refine next s13 ?_ ?_ x14 e14
        · rw [if_pos (by omega), ← hpe, e13, fx_set0, f11]
          rfl
        · rw [e13]
          exact (hos.tr o11).tr xO.set0
      rw [k6, p6]
      refine ⟨fun q1 => ⟨fun z => absurd z (by decide), fun _ => ⟨hiw, ?_⟩⟩, fun q1 => ⟨fun q4 => ⟨fun _ => ?_, fun z => absurd rfl z⟩, fun q4 => ⟨fun z => absurd z (by decide), fun _ => ⟨hiw, ?_⟩⟩⟩⟩
      · refine x_drawFrom ok6 (by omega) (fun s9 f9 o9 => ⟨hiw, ?_⟩)
        have w9 : sWorks (fx b s9) = sWorks (fx b σ') := by rw [f9, sWorks_drawFrom]; exact w6
        have ok9 : sOk nt (fx b s9) := by rw [f9]; exact sDrawFrom_ok ok6 (by omega)
        have p9 : s9.1 (b + 6) w = fx b σ' 6 w := by
          show fx b s9 6 w = _
          rw [f9, sDrawFrom_row (by decide)]
          exact p6
        rw [p9]
        refine x_drawFrom ok9 (by omega) (fun s10 f10 o10 => pay s10 ?_ ?_ ((o6.tr o9).tr o10) ?_)
        · rw [f10]
          exact sDrawFrom_ok ok9 (by omega)
        · rw [f10, sWorks_drawFrom]
          exact w9
        · rw [f10, f9, f6]
          unfold sDrain1
          rw [if_pos hg.2, if_pos (Or.inl q1)]
      · refine pay s6 ok6 w6 o6 ?_
        rw [f6]
        unfold sDrain1
        rw [if_pos hg.2, if_neg (fun z => z.elim q1 q4)]
      · refine x_drawFrom ok6 (by omega) (fun s9 f9 o9 => ⟨hiw, ?_⟩)
        have w9 : sWorks (fx b s9) = sWorks (fx b σ') := by rw [f9, sWorks_drawFrom]; exact w6
        have ok9 : sOk nt (fx b s9) := by rw [f9]; exact sDrawFrom_ok ok6 (by omega)
        have p9 : s9.1 (b + 6) w = fx b σ' 6 w := by
          show fx b s9 6 w = _
          rw [f9, sDrawFrom_row (by decide)]
          exact p6
        rw [p9]
        refine x_drawFrom ok9 (by omega) (fun s10 f10 o10 => pay s10 ?_ ?_ ((o6.tr o9).tr o10) ?_)
        · rw [f10]
          exact sDrawFrom_ok ok9 (by omega)
        · rw [f10, sWorks_drawFrom]
          exact w9
        · rw [f10, f9, f6]
          unfold sDrain1
          rw [if_pos hg.2, if_pos (Or.inr q4)]
theorem sLess_in {nt c : Nat} {V : Nat → (Nat → Int32) → Int32} {A : kFn} (h : sOk nt A) (hc : c < 12) : 0 ≤ sLess V A c ∧ sLess V A c ≤ A 1 c ∧ sLess V A c ≤ A 2 c := by
  have h1 := h.1 c hc
  have h2 := sMin_in h1.1.1 h1.2.1.1
  have h3 := sSay_in (V := V) (A := A) (p := 1) (c := c) (num := sStand A c) (by decide)
  have h4 := sMin_in h2.1 h3.1
  unfold sLess
  grind
theorem sShrink1_ok {nt c : Nat} {V : Nat → (Nat → Int32) → Int32} {A : kFn} (h : sOk nt A) (hc : c < 12) : sOk nt (sShrink1 V c A) := by
  have h1 := h.1 c hc
  have h2 := sLess_in (V := V) h hc
  unfold sShrink1
  split
  · refine sOk.set1 (sOk.set2 h ?_) ?_ <;> grind
  · exact h
theorem sShrinkN_ok {nt : Nat} {V : Nat → (Nat → Int32) → Int32} {A : kFn} (h : sOk nt A) : ∀ n : Nat, n ≤ 12 → sOk nt (kfor n (sShrink1 V) A) := by
  intro n
  induction n with
  | zero => exact fun _ => h
  | succ n ih => exact fun hn => sShrink1_ok (ih (by omega)) (by omega)
theorem x_shrink {nt b : Nat} {T : kTxt} {σ : kS} {Q : kS → Prop} (hO : sOk nt (fx b σ)) (hT : tOk T) (h : ∀ σ' : kS, fx b σ' = sShrink (xV T) (fx b σ) → xO b σ σ' → Q σ') : wX0_shrink b T σ Q := by
  intro P hP
  suffices key : ∀ k c : Nat, c + k = 12 → ∀ σ' : kS, fx b σ' = kfor c (sShrink1 (xV T)) (fx b σ) → xO b σ σ' → P σ' (nI c) from key 12 0 rfl σ rfl xO.rf
  intro k
  induction k with
  | zero =>
    intro c hc σ' hf ho
    have e : c = 12 := by omega
    subst e
    exact hP _ _ ⟨fun _ => h σ' hf ho, fun q => absurd (k_at rfl) q⟩
  | succ k ih =>
    intro c hc σ' hf ho
    have hO' := sShrinkN_ok (V := xV T) hO c (by omega)
    rw [← hf] at hO'
    have hic : vp_in (nI c) 12 := k_idx (by omega) (by decide)
    have next : ∀ σ2 : kS, fx b σ2 = sShrink1 (xV T) c (fx b σ') → xO b σ' σ2 → ∀ x : Int32, x = nI c + (1 : Int32) → P σ2 x := by
      intro σ2 f2 o2 x ex
      rw [ex, k_n1]
      refine ih (c + 1) (by omega) σ2 ?_ (ho.tr o2)
      rw [f2, hf]
      rfl
    refine hP _ _ ⟨fun q => absurd q (k_ge (N := 12) (by omega) (by decide) rfl), fun _ => ?_⟩
    rw [k_cl (by omega)]
    refine ⟨hic, fun q => next σ' (if_neg q).symm xO.rf, fun q => ?_⟩
    refine x_says (part := 1) (num := sStand (fx b σ') c) hO' (by omega) (by decide) (hT 1 (by decide)) (Or.inl ⟨rfl, rfl⟩) (fun s4 f4 o4 => ⟨hic, hic, fun x6 e6 => ⟨hic, hic, fun s7 e7 => ⟨hic, hic, fun s8 e8 => ?_⟩⟩⟩)
    have e41 : s4.1 (b + 1) c = fx b σ' 1 c := by rw [← f4]; rfl
    have e42 : s4.1 (b + 2) c = fx b σ' 2 c := by rw [← f4]; rfl
    have ex6 : x6 = sLess (xV T) (fx b σ') c := by
      rw [e6, e41, e42]
      rfl
    have f7 : fx b s7 = fset (fx b σ') 2 c (fx b σ' 2 c - x6) := by
      rw [e7, fx_set (by omega), f4, e42]
    have e71 : s7.1 (b + 1) c = fx b σ' 1 c := by
      show fx b s7 1 c = _
      rw [f7]
      rfl
    refine next s8 ?_ ?_
    · rw [e8, fx_set (by omega), f7, e71, ex6]
      exact (if_pos q).symm
    · rw [e8, e7]
      exact (o4.tr (xO.set (by omega))).tr (xO.set (by omega))
theorem sYear_ok {nt : Nat} {V : Nat → (Nat → Int32) → Int32} {A : kFn} (h : sOk nt A) : sOk nt (sYear V A) := by
  have h1 := sFlow_ok (sRain_ok (V := V) h)
  have h2 := (sDrainN_ok (V := V) h1 _ (Nat.le_refl _)).1
  exact (sShrinkN_ok (V := V) h2 12 (by omega)).set9
theorem x_passYear {nt b : Nat} {T : kTxt} {σ : kS} {Q : kS → Prop} (hO : sOk nt (fx b σ)) (hT : tOk T) (h : ∀ σ' : kS, fx b σ' = sYear (xV T) (fx b σ) → xO b σ σ' → Q σ') : wX0_passYear b T σ Q := by
  refine x_rain hO hT (fun s1 f1 o1 => ?_)
  have k1 : sOk nt (fx b s1) := by rw [f1]; exact sRain_ok hO
  refine x_flow k1 (fun s2 f2 o2 => ?_)
  have k2 : sOk nt (fx b s2) := by rw [f2]; exact sFlow_ok k1
  refine x_drain k2 hT (fun s3 f3 o3 => ?_)
  have k3 : sOk nt (fx b s3) := by rw [f3]; exact (sDrainN_ok k2 _ (Nat.le_refl _)).1
  refine x_shrink k3 hT (fun s4 f4 o4 s5 e5 => h s5 ?_ ?_)
  · rw [e5, fx_set0]
    have e4 : s4.1 b 9 = fx b s4 0 9 := rfl
    rw [e4, f4, f3, f2, f1]
    rfl
  · rw [e5]
    exact (((o1.tr o2).tr o3).tr o4).tr xO.set0
theorem x_pourOnAll {nt b : Nat} {m : Int32} {σ : kS} {Q : kS → Prop} (h : ∀ σ' : kS, fx b σ' = kfor 12 (fun c B => sPour B c m) (fx b σ) → xO b σ σ' → Q σ') : wX0_pourOnAll b m σ Q := by
  intro P hP
  suffices key : ∀ k c : Nat, c + k = 12 → ∀ σ' : kS, fx b σ' = kfor c (fun c B => sPour B c m) (fx b σ) → xO b σ σ' → P σ' (nI c) from key 12 0 rfl σ rfl xO.rf
  intro k
  induction k with
  | zero =>
    intro c hc σ' hf ho
    have e : c = 12 := by omega
    subst e
    exact hP _ _ ⟨fun _ => h σ' hf ho, fun q => absurd (k_at rfl) q⟩
  | succ k ih =>
    intro c hc σ' hf ho
    refine hP _ _ ⟨fun q => absurd q (k_ge (N := 12) (by omega) (by decide) rfl), fun _ => x_pour (by omega) (fun s2 f2 o2 x ex => ?_)⟩
    rw [ex, k_n1]
    refine ih (c + 1) (by omega) s2 ?_ (ho.tr o2)
    rw [f2, hf]
    rfl
