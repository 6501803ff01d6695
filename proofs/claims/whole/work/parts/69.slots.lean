/-! a thing of a fen, by what it is: where the class and where the reference keep it -/
def kSl (what of : Nat) : Nat × Nat := match what with
  | 0 => (0, 8)
  | 1 => (0, 9)
  | 2 => (1, of)
  | 3 => (2, of)
  | 4 => (3, of)
  | 5 => (5, of)
  | 6 => (6, of)
  | 7 => (7, of)
  | 8 => (4, of)
  | _ => (0, 12)
def kSm (what of : Nat) : Nat × Nat := match what with
  | 0 => (0, 7)
  | 1 => (0, 8)
  | 2 => (4, 3 * of)
  | 3 => (4, 3 * of + 1)
  | 4 => (4, 3 * of + 2)
  | 5 => (6, 3 * of)
  | 6 => (6, 3 * of + 1)
  | 7 => (6, 3 * of + 2)
  | 8 => (5, of)
  | _ => (0, 4)
/-- the number that the class tells a thing by -/
def kSw (what : Nat) : Nat := if what = 9 then 11 else what
theorem n_ix {a b c : Nat} (h : c ≤ b) : (3 : Int32) * nI a + nI b - nI c = nI (3 * a + (b - c)) := by
  rw [n_3, nI_add, pk_sub (by omega), show 3 * a + b - c = 3 * a + (b - c) by omega]
theorem w_cases {what : Nat} (h : what ≤ 9) : what = 0 ∨ what = 1 ∨ what = 2 ∨ what = 3 ∨ what = 4 ∨ what = 5 ∨ what = 6 ∨ what = 7 ∨ what = 8 ∨ what = 9 := by omega
theorem x_putR {p n of : Nat} {l2 l3 : Int32} {σ : kS} {Q : kS → Prop} (hl : l2 = nI of) (ho : of < n) (hn : n < 1000) (h : ∀ s : kS, s = kset σ p of l3 → Q s) : (l2 < 0 → Q σ) ∧ (¬ l2 < 0 → ((Int32.ofNat n) ≤ l2 → Q σ) ∧ (¬ (Int32.ofNat n) ≤ l2 → vp_in l2 n ∧ ∀ s12 : kS, s12 = kset σ p l2.toNatClampNeg l3 → Q s12)) := by
  subst hl
  refine ⟨fun q => absurd q (k_nn (by omega)), fun _ => ⟨fun q => absurd q (nI_ge ho (by omega)), fun _ => ⟨k_idx ho (by omega), fun s e => h s ?_⟩⟩⟩
  rw [e, k_cl (by omega)]
theorem x_getR {p n of : Nat} {l2 : Int32} {σ : kS} {Q : Int32 → kS → Prop} (hl : l2 = nI of) (ho : of < n) (hn : n < 1000) (h : Q (σ.1 p of) σ) : (l2 < 0 → Q (0 : Int32) σ) ∧ (¬ l2 < 0 → ((Int32.ofNat n) ≤ l2 → Q (0 : Int32) σ) ∧ (¬ (Int32.ofNat n) ≤ l2 → vp_in l2 n ∧ Q (σ.1 p l2.toNatClampNeg) σ)) := by
  subst hl
  refine ⟨fun q => absurd q (k_nn (by omega)), fun _ => ⟨fun q => absurd q (nI_ge ho (by omega)), fun _ => ⟨k_idx ho (by omega), ?_⟩⟩⟩
  rw [k_cl (by omega)]
  exact h
theorem x_put {b what of : Nat} {l2 v : Int32} {σ : kS} {Q : kS → Prop} (hw : what ≤ 9) (hl : 2 ≤ what → what ≤ 8 → l2 = nI of) (hc : 2 ≤ what → what ≤ 4 → of < 12) (hk : 5 ≤ what → what ≤ 8 → of < 6) (h : ∀ s : kS, fx b s = fset (fx b σ) (kSl what of).1 (kSl what of).2 v → xO b σ s → Q s) : wX0_put b (nI (kSw what)) l2 v σ Q := by
  have row : ∀ r : Nat, 1 ≤ r → r ≤ 7 → (kSl what of) = (r, of) → ∀ s : kS, s = kset σ (b + r) of v → Q s := fun r h1 h7 e s es => h s (by rw [e, es, fx_set h7]) (by rw [es]; exact xO.set (by omega))
  have sca : ∀ i : Nat, (kSl what of) = (0, i) → ∀ s : kS, s = kset σ b i v → Q s := fun i e s es => h s (by rw [e, es, fx_set0]) (by rw [es]; exact xO.set0)
  rcases w_cases hw with e | e | e | e | e | e | e | e | e | e <;> subst e
  · exact ⟨fun _ => sca 8 rfl, fun q => absurd q (by decide), fun q => absurd q (by decide), fun q => absurd rfl q⟩
  · exact ⟨fun q => absurd q (by decide), fun _ => sca 9 rfl, fun q => absurd q (by decide), fun _ q => absurd rfl q⟩
  · exact ⟨fun q => absurd q (by decide), fun q => absurd q (by decide), fun q => absurd q (by decide), fun _ _ _ => ⟨fun _ => x_putR (hl (by decide) (by decide)) (hc (by decide) (by decide)) (by decide) (row 1 (by decide) (by decide) rfl), fun q => absurd q (by decide), fun q => absurd q (by decide), fun q => absurd q (by decide), fun q => absurd q (by decide), fun q => absurd q (by decide), fun q => absurd rfl q⟩⟩
  · exact ⟨fun q => absurd q (by decide), fun q => absurd q (by decide), fun q => absurd q (by decide), fun _ _ _ => ⟨fun q => absurd q (by decide), fun _ => x_putR (hl (by decide) (by decide)) (hc (by decide) (by decide)) (by decide) (row 2 (by decide) (by decide) rfl), fun q => absurd q (by decide), fun q => absurd q (by decide), fun q => absurd q (by decide), fun q => absurd q (by decide), fun _ q => absurd rfl q⟩⟩
  · exact ⟨fun q => absurd q (by decide), fun q => absurd q (by decide), fun q => absurd q (by decide), fun _ _ _ => ⟨fun q => absurd q (by decide), fun q => absurd q (by decide), fun _ => x_putR (hl (by decide) (by decide)) (hc (by decide) (by decide)) (by decide) (row 3 (by decide) (by decide) rfl), fun q => absurd q (by decide), fun q => absurd q (by decide), fun q => absurd q (by decide), fun _ _ q => absurd rfl q⟩⟩
  · exact ⟨fun q => absurd q (by decide), fun q => absurd q (by decide), fun q => absurd q (by decide), fun _ _ _ => ⟨fun q => absurd q (by decide), fun q => absurd q (by decide), fun q => absurd q (by decide), fun _ => x_putR (hl (by decide) (by decide)) (hk (by decide) (by decide)) (by decide) (row 5 (by decide) (by decide) rfl), fun q => absurd q (by decide), fun q => absurd q (by decide), fun _ _ _ q => absurd rfl q⟩⟩
  · exact ⟨fun q => absurd q (by decide), fun q => absurd q (by decide), fun q => absurd q (by decide), fun _ _ _ => ⟨fun q => absurd q (by decide), fun q => absurd q (by decide), fun q => absurd q (by decide), fun q => absurd q (by decide), fun _ => x_putR (hl (by decide) (by decide)) (hk (by decide) (by decide)) (by decide) (row 6 (by decide) (by decide) rfl), fun q => absurd q (by decide), fun _ _ _ _ q => absurd rfl q⟩⟩
  · exact ⟨fun q => absurd q (by decide), fun q => absurd q (by decide), fun q => absurd q (by decide), fun _ _ _ => ⟨fun q => absurd q (by decide), fun q => absurd q (by decide), fun q => absurd q (by decide), fun q => absurd q (by decide), fun q => absurd q (by decide), fun _ => x_putR (hl (by decide) (by decide)) (hk (by decide) (by decide)) (by decide) (row 7 (by decide) (by decide) rfl), fun _ _ _ _ _ q => absurd rfl q⟩⟩
  · exact ⟨fun q => absurd q (by decide), fun q => absurd q (by decide), fun q => absurd q (by decide), fun _ _ _ => ⟨fun q => absurd q (by decide), fun q => absurd q (by decide), fun q => absurd q (by decide), fun q => absurd q (by decide), fun q => absurd q (by decide), fun q => absurd q (by decide), fun _ _ _ _ _ _ => x_putR (hl (by decide) (by decide)) (hk (by decide) (by decide)) (by decide) (row 4 (by decide) (by decide) rfl)⟩⟩
  · exact ⟨fun q => absurd q (by decide), fun q => absurd q (by decide), fun _ => sca 12 rfl, fun _ _ q => absurd rfl q⟩
theorem x_get {b what of : Nat} {l2 : Int32} {σ : kS} {Q : Int32 → kS → Prop} (hw : what ≤ 9) (hl : 2 ≤ what → what ≤ 8 → l2 = nI of) (hc : 2 ≤ what → what ≤ 4 → of < 12) (hk : 5 ≤ what → what ≤ 8 → of < 6) (h : Q (fx b σ (kSl what of).1 (kSl what of).2) σ) : wX0_get b (nI (kSw what)) l2 σ Q := by
  have row : ∀ r : Nat, 1 ≤ r → r ≤ 7 → (kSl what of) = (r, of) → Q (σ.1 (b + r) of) σ := fun r h1 h7 e => by
    rw [e] at h
    unfold fx at h
    rw [if_pos (by show r ≤ 7; omega)] at h
    exact h
  rcases w_cases hw with e | e | e | e | e | e | e | e | e | e <;> subst e
  · exact ⟨fun _ => h, fun q => absurd q (by decide), fun q => absurd q (by decide), fun q => absurd rfl q⟩
  · exact ⟨fun q => absurd q (by decide), fun _ => h, fun q => absurd q (by decide), fun _ q => absurd rfl q⟩
  · exact ⟨fun q => absurd q (by decide), fun q => absurd q (by decide), fun q => absurd q (by decide), fun _ _ _ => ⟨fun _ => x_getR (hl (by decide) (by decide)) (hc (by decide) (by decide)) (by decide) (row 1 (by decide) (by decide) rfl), fun q => absurd q (by decide), fun q => absurd q (by decide), fun q => absurd q (by decide), fun q => absurd q (by decide), fun q => absurd q (by decide), fun q => absurd rfl q⟩⟩
  · exact ⟨fun q => absurd q (by decide), fun q => absurd q (by decide), fun q => absurd q (by decide), fun _ _ _ => ⟨fun q => absurd q (by decide), fun _ => x_getR (hl (by decide) (by decide)) (hc (by decide) (by decide)) (by decide) (row 2 (by decide) (by decide) rfl), fun q => absurd q (by decide), fun q => absurd q (by decide), fun q => absurd q (by decide), fun q => absurd q (by decide), fun _ q => absurd rfl q⟩⟩
  · exact ⟨fun q => absurd q (by decide), fun q => absurd q (by decide), fun q => absurd q (by decide), fun _ _ _ => ⟨fun q => absurd q (by decide), fun q => absurd q (by decide), fun _ => x_getR (hl (by decide) (by decide)) (hc (by decide) (by decide)) (by decide) (row 3 (by decide) (by decide) rfl), fun q => absurd q (by decide), fun q => absurd q (by decide), fun q => absurd q (by decide), fun _ _ q => absurd rfl q⟩⟩
  · exact ⟨fun q => absurd q (by decide), fun q => absurd q (by decide), fun q => absurd q (by decide), fun _ _ _ => ⟨fun q => absurd q (by decide), fun q => absurd q (by decide), fun q => absurd q (by decide), fun _ => x_getR (hl (by decide) (by decide)) (hk (by decide) (by decide)) (by decide) (row 5 (by decide) (by decide) rfl), fun q => absurd q (by decide), fun q => absurd q (by decide), fun _ _ _ q => absurd rfl q⟩⟩
  · exact ⟨fun q => absurd q (by decide), fun q => absurd q (by decide), fun q => absurd q (by decide), fun _ _ _ => ⟨fun q => absurd q (by decide), fun q => absurd q (by decide), fun q => absurd q (by decide), fun q => absurd q (by decide), fun _ => x_getR (hl (by decide) (by decide)) (hk (by decide) (by decide)) (by decide) (row 6 (by decide) (by decide) rfl), fun q => absurd q (by decide), fun _ _ _ _ q => absurd rfl q⟩⟩
  · exact ⟨fun q => absurd q (by decide), fun q => absurd q (by decide), fun q => absurd q (by decide), fun _ _ _ => ⟨fun q => absurd q (by decide), fun q => absurd q (by decide), fun q => absurd q (by decide), fun q => absurd q (by decide), fun q => absurd q (by decide), fun _ => x_getR (hl (by decide) (by decide)) (hk (by decide) (by decide)) (by decide) (row 7 (by decide) (by decide) rfl), fun _ _ _ _ _ q => absurd rfl q⟩⟩
  · exact ⟨fun q => absurd q (by decide), fun q => absurd q (by decide), fun q => absurd q (by decide), fun _ _ _ => ⟨fun q => absurd q (by decide), fun q => absurd q (by decide), fun q => absurd q (by decide), fun q => absurd q (by decide), fun q => absurd q (by decide), fun q => absurd q (by decide), fun _ _ _ _ _ _ => x_getR (hl (by decide) (by decide)) (hk (by decide) (by decide)) (by decide) (row 4 (by decide) (by decide) rfl)⟩⟩
  · exact ⟨fun q => absurd q (by decide), fun q => absurd q (by decide), fun _ => h, fun _ _ q => absurd rfl q⟩
theorem m_lays {what of : Nat} {l2 v : Int32} {σ : kS} {Q : kS → Prop} (hw : what ≤ 9) (hl : 2 ≤ what → what ≤ 8 → l2 = nI of) (hc : 2 ≤ what → what ≤ 4 → of < 12) (hk : 5 ≤ what → what ≤ 8 → of < 6) (h : ∀ s : kS, s = kset σ (kSm what of).1 (kSm what of).2 v → Q s) : wX5_lays (nI what) l2 v σ Q := by
  have fen : 2 ≤ what → what ≤ 4 → (kSm what of) = (4, 3 * of + (what - 2)) → vp_in ((((3 : Int32) * l2) + nI what) - (2 : Int32)) 36 ∧ ∀ s9 : kS, s9 = kset σ 4 ((((3 : Int32) * l2) + nI what) - (2 : Int32)).toNatClampNeg v → Q s9 := by
    intro h2 h4 e
    have e2 : (((3 : Int32) * l2) + nI what) - (2 : Int32) = nI (3 * of + (what - 2)) := by
      rw [hl h2 (by omega)]
      exact n_ix h2
    have := hc h2 h4
    rw [e2]
    refine ⟨k_idx (by omega) (by decide), fun s es => h s ?_⟩
    rw [es, k_cl (by omega), e]
  have wrk : 5 ≤ what → what ≤ 7 → (kSm what of) = (6, 3 * of + (what - 5)) → vp_in ((((3 : Int32) * l2) + nI what) - (5 : Int32)) 18 ∧ ∀ s9 : kS, s9 = kset σ 6 ((((3 : Int32) * l2) + nI what) - (5 : Int32)).toNatClampNeg v → Q s9 := by
    intro h2 h4 e
    have e2 : (((3 : Int32) * l2) + nI what) - (5 : Int32) = nI (3 * of + (what - 5)) := by
      rw [hl (by omega) (by omega)]
      exact n_ix h2
    have := hk h2 (by omega)
    rw [e2]
    refine ⟨k_idx (by omega) (by decide), fun s es => h s ?_⟩
    rw [es, k_cl (by omega), e]
  rcases w_cases hw with e | e | e | e | e | e | e | e | e | e <;> subst e
  · exact ⟨fun z => absurd rfl z, fun _ => h⟩
  · exact ⟨fun _ => ⟨fun z => absurd rfl z, fun _ => h⟩, fun z => absurd z (by decide)⟩
  · exact ⟨fun _ => ⟨fun _ => ⟨fun z => absurd z (by decide), fun _ => fen (by decide) (by decide) rfl⟩, fun z => absurd z (by decide)⟩, fun z => absurd z (by decide)⟩
  · exact ⟨fun _ => ⟨fun _ => ⟨fun z => absurd z (by decide), fun _ => fen (by decide) (by decide) rfl⟩, fun z => absurd z (by decide)⟩, fun z => absurd z (by decide)⟩
  · exact ⟨fun _ => ⟨fun _ => ⟨fun z => absurd z (by decide), fun _ => fen (by decide) (by decide) rfl⟩, fun z => absurd z (by decide)⟩, fun z => absurd z (by decide)⟩
  · exact ⟨fun _ => ⟨fun _ => ⟨fun _ => ⟨fun z => absurd z (by decide), fun _ => wrk (by decide) (by decide) rfl⟩, fun z => absurd (by decide) z⟩, fun z => absurd z (by decide)⟩, fun z => absurd z (by decide)⟩
  · exact ⟨fun _ => ⟨fun _ => ⟨fun _ => ⟨fun z => absurd z (by decide), fun _ => wrk (by decide) (by decide) rfl⟩, fun z => absurd (by decide) z⟩, fun z => absurd z (by decide)⟩, fun z => absurd z (by decide)⟩
  · exact ⟨fun _ => ⟨fun _ => ⟨fun _ => ⟨fun z => absurd z (by decide), fun _ => wrk (by decide) (by decide) rfl⟩, fun z => absurd (by decide) z⟩, fun z => absurd z (by decide)⟩, fun z => absurd z (by decide)⟩
  · have h6 := hk (by decide) (by decide)
    have e2 := hl (by decide) (by decide)
    refine ⟨fun _ => ⟨fun _ => ⟨fun _ => ⟨fun _ => ⟨fun z => absurd rfl z, fun _ => ⟨?_, fun s es => h s ?_⟩⟩, fun z => absurd (by decide) z⟩, fun z => absurd (by decide) z⟩, fun z => absurd z (by decide)⟩, fun z => absurd z (by decide)⟩
    · rw [e2]
      exact k_idx h6 (by decide)
    · rw [es, e2, k_cl (by omega)]
      rfl
  · exact ⟨fun _ => ⟨fun _ => ⟨fun _ => ⟨fun _ => ⟨fun _ => h, fun z => absurd z (by decide)⟩, fun z => absurd (by decide) z⟩, fun z => absurd (by decide) z⟩, fun z => absurd z (by decide)⟩, fun z => absurd z (by decide)⟩
theorem k_num {A : kFn} {σ : kS} {w : Nat} {v : Int32} (h : mR A σ) : mR (fset A 5 w v) (kset σ 6 (3 * w) v) := by
  obtain ⟨a, b, d⟩ := h
  refine ⟨fun x hx => ?_, ?_, fun y hy => ?_⟩
  · rw [kset_off (by decide)]
    exact a x hx
  · rw [kset_off (by decide)]
    exact b
  · rw [sWorks_set (by decide)] at hy
    obtain ⟨e1, e2, e3, e4⟩ := d y hy
    rw [kset_off (by decide)]
    refine ⟨e1, ?_, ?_, ?_⟩
    · by_cases q : y = w
      · subst q
        rw [kset_at, fset_at]
      · rw [kset_ne (by omega), fset_ne q]
        exact e2
    · rw [kset_ne (by omega)]; exact e3
    · rw [kset_ne (by omega)]; exact e4
theorem k_plc {A : kFn} {σ : kS} {w : Nat} {v : Int32} (h : mR A σ) : mR (fset A 6 w v) (kset σ 6 (3 * w + 1) v) := by
  obtain ⟨a, b, d⟩ := h
  refine ⟨fun x hx => ?_, ?_, fun y hy => ?_⟩
  · rw [kset_off (by decide)]
    exact a x hx
  · rw [kset_off (by decide)]
    exact b
  · rw [sWorks_set (by decide)] at hy
    obtain ⟨e1, e2, e3, e4⟩ := d y hy
    rw [kset_off (by decide)]
    refine ⟨e1, ?_, ?_, ?_⟩
    · rw [kset_ne (by omega)]; exact e2
    · by_cases q : y = w
      · subst q
        rw [kset_at, fset_at]
      · rw [kset_ne (by omega), fset_ne q]
        exact e3
    · rw [kset_ne (by omega)]; exact e4
theorem k_kind {A : kFn} {σ : kS} {w : Nat} {v : Int32} (h : mR A σ) : mR (fset A 4 w v) (kset σ 5 w v) := by
  obtain ⟨a, b, d⟩ := h
  refine ⟨fun x hx => ?_, ?_, fun y hy => ?_⟩
  · rw [kset_off (by decide)]
    exact a x hx
  · rw [kset_off (by decide)]
    exact b
  · rw [sWorks_set (by decide)] at hy
    obtain ⟨e1, e2, e3, e4⟩ := d y hy
    rw [kset_off (p := 5) (q := 6) (by decide)]
    refine ⟨?_, e2, e3, e4⟩
    by_cases q : y = w
    · subst q
      rw [kset_at, fset_at]
    · rw [kset_ne q, fset_ne q]
      exact e1
theorem mR_put {what of : Nat} {A : kFn} {σ : kS} {v : Int32} (hw : what ≤ 9) (h : mR A σ) : mR (fset A (kSl what of).1 (kSl what of).2 v) (kset σ (kSm what of).1 (kSm what of).2 v) := by
  rcases w_cases hw with e | e | e | e | e | e | e | e | e | e <;> subst e
  · exact k_river h
  · exact k_year h
  · exact k_kset40 h
  · exact k_kset41 h
  · exact k_kset4 h
  · exact k_num h
  · exact k_plc h
  · exact k_going h
  · exact k_kind h
  · exact k_rule h
theorem mR_val {what of : Nat} {A : kFn} {σ : kS} (hw : what ≤ 9) (hc : 2 ≤ what → what ≤ 4 → of < 12) (hk : 5 ≤ what → what ≤ 8 → of < sWorks A) (h : mR A σ) : σ.1 (kSm what of).1 (kSm what of).2 = A (kSl what of).1 (kSl what of).2 := by
  rcases w_cases hw with e | e | e | e | e | e | e | e | e | e <;> subst e
  · exact h.2.1.1
  · exact h.2.1.2.1
  · exact (h.1 of (hc (by decide) (by decide))).1
  · exact (h.1 of (hc (by decide) (by decide))).2.1
  · exact (h.1 of (hc (by decide) (by decide))).2.2
  · exact (h.2.2 of (hk (by decide) (by decide))).2.1
  · exact (h.2.2 of (hk (by decide) (by decide))).2.2.1
  · exact (h.2.2 of (hk (by decide) (by decide))).2.2.2
  · exact (h.2.2 of (hk (by decide) (by decide))).1
  · exact h.2.1.2.2.2.2
/-- a thing that a fen has -/
def kHas (A : kFn) (l1 l2 : Int32) : Prop := l1 = 0 ∨ l1 = 1 ∨ (2 ≤ l1 ∧ l1 ≤ 4 ∧ 0 ≤ l2 ∧ l2 < 12) ∨ (5 ≤ l1 ∧ l1 ≤ 10 ∧ 0 ≤ l2 ∧ l2 < A 0 11)
theorem x_has {b : Nat} {l1 l2 : Int32} {σ : kS} {Q : Int32 → kS → Prop} (h1 : kHas (fx b σ) l1 l2 → Q 1 σ) (h0 : ¬ kHas (fx b σ) l1 l2 → Q 0 σ) : wX0_has b l1 l2 σ Q := by
  have e11 : fx b σ 0 11 = σ.1 b 11 := rfl
  unfold kHas at h1 h0
  rw [e11] at h1 h0
  have w26 : ¬ (l1 = 0 ∨ l1 = 1 ∨ (2 ≤ l1 ∧ l1 ≤ 4)) → wX0_has_26 b Q l1 l2 σ := by
    intro hn
    have no : ¬ (5 ≤ l1 ∧ l1 ≤ 10 ∧ 0 ≤ l2 ∧ l2 < σ.1 b 11) → Q 0 σ := fun hz => h0 (by
      rintro (z | z | z | z)
      · exact hn (Or.inl z)
      · exact hn (Or.inr (Or.inl z))
      · exact hn (Or.inr (Or.inr ⟨z.1, z.2.1⟩))
      · exact hz z)
    refine ⟨fun q => no (fun z => Int32.not_le.mpr q z.1), fun q => ⟨fun q2 => no (fun z => Int32.not_le.mpr q2 z.2.1), fun q2 => ⟨fun q3 => no (fun z => Int32.not_le.mpr q3 z.2.2.1), fun q3 => ⟨fun q4 => no (fun z => Int32.not_le.mpr z.2.2.2 q4), fun q4 => h1 (Or.inr (Or.inr (Or.inr ⟨Int32.not_lt.mp q, Int32.not_lt.mp q2, Int32.not_lt.mp q3, Int32.not_le.mp q4⟩)))⟩⟩⟩⟩
  refine ⟨fun q => h1 (Or.inl q), fun q => ⟨fun q2 => ⟨fun q3 => w26 (fun z => by rcases z with z | z | z; exact q z; exact q2 z; exact Int32.not_le.mpr q3 z.1), fun q3 => ⟨fun q4 => w26 (fun z => by rcases z with z | z | z; exact q z; exact q2 z; exact Int32.not_le.mpr q4 z.2), fun q4 => ?_⟩⟩, fun q2 => h1 (Or.inr (Or.inl q2))⟩⟩
  refine x_isCell (fun z => ⟨Or.inr rfl, h1 ?_⟩) (fun z => ⟨Or.inl rfl, h0 ?_⟩)
  · exact Or.inr (Or.inr (Or.inl ⟨Int32.not_lt.mp q3, Int32.not_lt.mp q4, z.1, z.2⟩))
  · rintro (y | y | y | y)
    · exact q y
    · exact q2 y
    · exact z ⟨y.2.2.1, y.2.2.2⟩
    · exact q4 (Int32.lt_of_lt_of_le (by decide) y.1)
theorem m_isOf {nt : Nat} {A : kFn} {l1 l2 : Int32} {σ : kS} {Q : Int32 → kS → Prop} (hO : sOk nt A) (hR : mR A σ) (hl0 : 0 ≤ l1) (hl : l1 ≤ 10) (h1 : kHas A l1 l2 → Q 1 σ) (h0 : ¬ kHas A l1 l2 → Q 0 σ) : wX5_isOf l1 l2 σ Q := by
  obtain ⟨h6, hn⟩ := hO.works
  unfold kHas at h1 h0
  refine ⟨fun q => h1 ?_, fun q => ⟨fun q2 => ?_, fun q2 => ?_⟩⟩
  · have : l1 = 0 ∨ l1 = 1 := by grind
    rcases this with z | z
    · exact Or.inl z
    · exact Or.inr (Or.inl z)
  · refine m_isWork hO hR (fun w hw e => ⟨fun z => absurd z (by decide), fun _ => h1 ?_⟩) (fun z => ⟨fun _ => h0 ?_, fun z => absurd rfl z⟩)
    · refine Or.inr (Or.inr (Or.inr ⟨q2, hl, ?_, ?_⟩))
      · rw [e]
        exact nI_pos' (by omega)
      · rw [e, hn]
        exact nI_lt hw (by omega)
    · rintro (y | y | y | y)
      · rw [y] at q2
        exact absurd q2 (by decide)
      · rw [y] at q2
        exact absurd q2 (by decide)
      · exact absurd (Int32.le_trans q2 y.2.1) (by decide)
      · exact z ⟨y.2.2.1, y.2.2.2⟩
  · refine m_isCell (fun z => ⟨fun z => absurd z (by decide), fun _ => h1 ?_⟩) (fun z => ⟨fun _ => h0 ?_, fun z => absurd rfl z⟩)
    · exact Or.inr (Or.inr (Or.inl ⟨Int32.not_lt.mp q, by grind, z.1, z.2⟩))
    · rintro (y | y | y | y)
      · exact q (by rw [y]; decide)
      · exact q (by rw [y]; decide)
      · exact z ⟨y.2.2.1, y.2.2.2⟩
      · exact q2 y.1
/-- the same, in numbers -/
theorem kHas_of {nt : Nat} {A : kFn} {what : Nat} {l2 : Int32} (hO : sOk nt A) (hw : what ≤ 10) (h : kHas A (nI what) l2) : ∃ of : Nat, (2 ≤ what → l2 = nI of) ∧ (2 ≤ what → what ≤ 4 → of < 12) ∧ (5 ≤ what → of < sWorks A) := by
  obtain ⟨h6, hn⟩ := hO.works
  rcases h with h | h | ⟨h1, h2, h3, h4⟩ | ⟨h1, h2, h3, h4⟩
  · have := (nI_eq (b := 0) (by omega) (by decide)).mp h
    exact ⟨0, fun z => absurd z (by omega), fun z => absurd z (by omega), fun z => absurd z (by omega)⟩
  · have := (nI_eq (b := 1) (by omega) (by decide)).mp h
    exact ⟨0, fun z => absurd z (by omega), fun z => absurd z (by omega), fun z => absurd z (by omega)⟩
  · have := (nI_leI (b := 4) (by omega) (by decide)).mp h2
    obtain ⟨c, hc, e⟩ := nI_of2 (x := l2) (M := 11) (n := 11) (by decide) (by grind) (by grind)
    exact ⟨c, fun _ => e, fun _ _ => by omega, fun z => absurd z (by omega)⟩
  · have := (nI_leI (a := 5) (by decide) (by omega)).mp h1
    have hp : ¬ l2 < 0 := by grind
    obtain ⟨w, hw2, e⟩ := nI_of (x := l2) hp
    rw [hn, e] at h4
    have h5 := (nI_ltI hw2 (by omega)).mp h4
    exact ⟨w, fun _ => e, fun _ z => absurd z (by omega), fun _ => h5⟩
theorem kHas_nf {A : kFn} {l1 l2 : Int32} : kHas (nf A) l1 l2 ↔ kHas A l1 l2 := by
  unfold kHas
  rw [nf_0 (by decide) (by decide)]
