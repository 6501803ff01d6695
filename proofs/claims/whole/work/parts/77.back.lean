/-! the two programs side by side: taken, image, back -/
def undN : Nat → Int32 → Int32 → Option Bool
  | 0, _, _ => none
  | f + 1, x, k => if x = -1 then some false else if x = k then some true else undN f (kUnder x.toNatClampNeg) k
def undB (o : Option Bool) : Bool := match o with
  | some _ => true
  | none => false
theorem und_all : ∀ a : Nat, a < 6 → ∀ b : Nat, b < 6 → undB (undN 4 (nI a) (nI b)) = true := by decide +kernel
theorem und_in : ∀ a : Nat, a < 6 → kUnder a = -1 ∨ kUnder a = nI 0 ∨ kUnder a = nI 1 ∨ kUnder a = nI 2 := by decide
theorem und_in2 {a : Nat} (h : a < 6) : kUnder a = -1 ∨ ∃ b : Nat, b < 6 ∧ kUnder a = nI b := by
  rcases und_in a h with e | e | e | e
  · exact Or.inl e
  · exact Or.inr ⟨0, by decide, e⟩
  · exact Or.inr ⟨1, by decide, e⟩
  · exact Or.inr ⟨2, by decide, e⟩
theorem x_und {k : Int32} {r : Bool} {Q : Int32 → Prop} (hk : ¬ k = -1) (h : Q (if r = true then 1 else 0)) : ∀ (f i : Nat) (x : Int32), f + i ≤ 6 → (x = -1 ∨ ∃ a : Nat, a < 6 ∧ x = nI a) → undN f x k = some r → wX0_isUnder_4 Q k x (nI i) := by
  intro f
  induction f with
  | zero => intro i x _ _ h; cases h
  | succ f ih =>
    intro i x hi hx hu P hP
    refine hP _ _ ⟨fun q => absurd q (nI_ge (b := 6) (by omega) (by decide)), fun _ => ⟨fun q => ?_, fun q => ⟨fun q2 => ?_, fun q2 => ⟨fun q3 => ?_, fun q3 => ?_⟩⟩⟩⟩
    · have e : x = -1 := by
        rcases hx with e | ⟨a, ha, e⟩
        · exact e
        · rw [e] at q
          exact absurd q (k_nn (by omega))
      rw [show undN (f + 1) x k = some false from if_pos e] at hu
      cases hu
      exact h
    · rcases hx with e | ⟨a, ha, e⟩
      · rw [e] at q2
        exact absurd q2 (by decide)
      · rw [e] at q2
        exact absurd q2 (nI_ge (b := 6) ha (by decide))
    · rcases hx with e | ⟨a, ha, e⟩
      · rw [e] at q
        exact absurd (by decide) q
      · subst e
        rw [show undN (f + 1) (nI a) k = undN f (kUnder (nI a).toNatClampNeg) k from (if_neg (nI_nm1 (by omega))).trans (if_neg q3), k_cl (by omega)] at hu
        refine ⟨k_idx ha (by decide), fun x5 e5 x6 e6 => ?_⟩
        rw [e5, e6, k_n1, k_cl (by omega)]
        exact ih (i + 1) _ (by omega) (und_in2 ha) hu P hP
    · have e : ¬ x = -1 := fun z => hk (q3.symm.trans z)
      rw [show undN (f + 1) x k = some true from (if_neg e).trans (if_pos q3)] at hu
      cases hu
      exact h
theorem m_over {a : Nat} {Q : Int32 → Prop} (ha : a < 6) (h : Q (kUnder a)) : wX5_over (nI a) Q := by
  rcases (by omega : a = 0 ∨ a = 1 ∨ a = 2 ∨ a = 3 ∨ a = 4 ∨ a = 5) with e | e | e | e | e | e <;> subst e
  · exact ⟨fun z => absurd rfl z, fun _ => h⟩
  · exact ⟨fun _ => ⟨fun _ => ⟨fun _ => h, fun z => absurd z (by decide)⟩, fun z => absurd z (by decide)⟩, fun z => absurd z (by decide)⟩
  · exact ⟨fun _ => ⟨fun _ => ⟨fun _ => h, fun z => absurd z (by decide)⟩, fun z => absurd z (by decide)⟩, fun z => absurd z (by decide)⟩
  · exact ⟨fun _ => ⟨fun z => absurd rfl z, fun _ => h⟩, fun z => absurd z (by decide)⟩
  · exact ⟨fun _ => ⟨fun _ => ⟨fun z => absurd rfl z, fun _ => h⟩, fun z => absurd z (by decide)⟩, fun z => absurd z (by decide)⟩
  · exact ⟨fun _ => ⟨fun _ => ⟨fun _ => h, fun z => absurd z (by decide)⟩, fun z => absurd z (by decide)⟩, fun z => absurd z (by decide)⟩
theorem m_und {w : Nat} {k : Int32} {r : Bool} {σ : kS} {Q : Int32 → kS → Prop} (hw : w < 6) (hk : ¬ k = -1) (h1 : r = true → Q (σ.1 6 (3 * w)) σ) (h0 : r = false → Q (-13) σ) : ∀ (f : Nat) (x : Int32), (x = -1 ∨ ∃ a : Nat, a < 6 ∧ x = nI a) → undN f x k = some r → wX5_taken_33 Q (nI w) k x σ := by
  have e51 : ∀ x : Int32, (x = k → r = true) → (¬ x = k → r = false) → wX5_taken_51 Q (nI w) k x σ := by
    intro x t1 t0
    refine ⟨fun q => h0 (t0 q), fun q => ?_⟩
    rw [n_3]
    refine ⟨k_idx (by omega) (by decide), ?_⟩
    rw [k_cl (by omega)]
    exact h1 (t1 q)
  intro f
  induction f with
  | zero => intro x _ h; cases h
  | succ f ih =>
    intro x hx hu P hP
    refine hP _ ⟨fun q => ?_, fun q => ⟨fun q2 => ?_, fun q2 => ?_⟩⟩
    · rw [show undN (f + 1) x k = some false from if_pos q] at hu
      cases hu
      exact e51 x (fun z => absurd (z.symm.trans q) hk) (fun _ => rfl)
    · rw [show undN (f + 1) x k = some true from (if_neg q).trans (if_pos q2)] at hu
      cases hu
      exact e51 x (fun _ => rfl) (fun z => absurd q2 z)
    · rw [show undN (f + 1) x k = undN f (kUnder x.toNatClampNeg) k from (if_neg q).trans (if_neg q2)] at hu
      rcases hx with e | ⟨a, ha, e⟩
      · exact absurd e q
      · subst e
        rw [k_cl (by omega)] at hu
        exact m_over ha (ih _ (und_in2 ha) hu P hP)
theorem s_taken {tx : List kTxt} {σx σm : kS} {l1 l2 : Int32} (hI : kInv tx σx σm) : wX4_taken l1 l2 σx (kSim tx σm (wX5_taken l1 l2 σm)) := by
  have hI0 := hI
  obtain ⟨a1, a2, a3, a4, a5, a6, a7, a8, a9⟩ := hI
  have hO := nf_ok.mpr a4
  obtain ⟨h6, hn6⟩ := a4.works
  have e11 : σx.1 3 11 = nI (sWorks (fx 3 σx)) := hn6
  have n11 : (nf (fx 3 σx)) 0 11 = σx.1 3 11 := nf_0 (by decide) (by decide)
  have bad : ¬ (0 ≤ l2 ∧ l2 ≤ 5) → kSim tx σm (wX5_taken l1 l2 σm) (-2 : Int32) σx := by
    intro hb
    unfold kSim wX5_taken
    exact m_in32 (lo := 0) (hi := 5) (by decide) (by decide) (fun z => absurd z hb) (fun _ => ⟨fun z => absurd rfl z, fun _ => ⟨rfl, hI0⟩⟩)
  have out : (0 ≤ l2 ∧ l2 ≤ 5) → ¬ (0 ≤ l1 ∧ l1 < σx.1 3 11) → kSim tx σm (wX5_taken l1 l2 σm) (-11 : Int32) σx := by
    intro h2 hb
    unfold kSim wX5_taken
    refine m_in32 (lo := 0) (hi := 5) (by decide) (by decide) (fun _ => ⟨fun _ => m_isWork hO a5 (fun w hw e => ?_) (fun _ => ⟨fun z => absurd rfl z, fun _ => ⟨rfl, hI0⟩⟩), fun z => absurd z (by decide)⟩) (fun z => absurd h2 z)
    exfalso
    rw [nf_works] at hw
    refine hb ?_
    rw [e, e11]
    exact ⟨nI_pos' (by omega), nI_lt hw (by omega)⟩
  refine ⟨fun q => bad (fun z => Int32.not_le.mpr q z.1), fun q => ⟨fun q2 => ?_, fun q2 => bad (fun z => q2 (by grind))⟩⟩
  have h2 : 0 ≤ l2 ∧ l2 ≤ 5 := ⟨Int32.not_lt.mp q, by grind⟩
  refine ⟨fun q3 => out h2 (fun z => Int32.not_le.mpr q3 z.1), fun q3 => ⟨fun q4 => ?_, fun q4 => out h2 (fun z => q4 z.2)⟩⟩
  obtain ⟨k, hk, e⟩ := nI_of2 (x := l2) (M := 5) (n := 5) (by decide) q h2.2
  subst e
  obtain ⟨w, hw, e⟩ := nI_of (x := l1) q3
  subst e
  rw [e11] at q4
  have hw2 := (nI_ltI hw (by omega)).mp q4
  obtain ⟨w1, w2, w3, w4⟩ := a4.2.2.2.2 w hw2
  obtain ⟨a, ha, ea⟩ := nI_of2 (x := fx 3 σx 4 w) (M := 5) (n := 5) (by decide) (Int32.not_lt.mpr w1.1) w1.2
  have hw2' : w < sWorks (nf (fx 3 σx)) := by rw [nf_works]; exact hw2
  have r5 := a5.2.2 w hw2'
  rw [nf_w (by decide) (by decide) (by omega), nf_w (by decide) (by decide) (by omega)] at r5
  have hand := und_all a (by omega) k (by omega)
  cases hg : undN 4 (nI a) (nI k) with
  | none =>
    rw [hg] at hand
    exact absurd hand (by decide)
  | some r =>
    have ref : ∀ R : Int32 → kS → Prop, (r = true → R (fx 3 σx 5 w) σm) → (r = false → R (-13) σm) → wX5_taken (nI w) (nI k) σm R := by
      intro R t1 t0
      refine m_in32 (lo := 0) (hi := 5) (by decide) (by decide) (fun _ => ⟨fun _ => m_isWork hO a5 (fun _ _ _ => ⟨fun _ => ⟨k_idx (by omega) (by decide), fun x6 e6 => ?_⟩, fun z => absurd z (by decide)⟩) (fun z => ?_), fun z => absurd z (by decide)⟩) (fun z => absurd h2 z)
      · rw [k_cl (by omega), r5.1, ea] at e6
        rw [e6]
        refine m_und (by omega) (nI_nm1 (by omega)) (fun z => ?_) t0 4 _ (Or.inr ⟨a, by omega, rfl⟩) hg
        rw [r5.2.1]
        exact t1 z
      · exfalso
        rw [n11, e11] at z
        exact z ⟨nI_pos' (by omega), nI_lt hw2 (by omega)⟩
    have hget := x_get (b := 3) (what := 8) (of := w) (l2 := nI w) (σ := σx) (Q := fun r6 s5 => wX0_isUnder r6 (nI k) (fun r7 => (r7 = 0 → kSim tx σm (wX5_taken (nI w) (nI k) σm) (-13 : Int32) s5) ∧ (¬ r7 = 0 → wX0_get 3 (5 : Int32) (nI w) s5 (fun r10 s9 => kSim tx σm (wX5_taken (nI w) (nI k) σm) r10 s9)))) (by decide) (fun _ _ => rfl) (fun _ z => absurd z (by decide)) (fun _ _ => by omega) ?_
    · exact hget
    · rw [show fx 3 σx (kSl 8 w).1 (kSl 8 w).2 = nI a from ea]
      refine x_und (r := r) (nI_nm1 (by omega)) ?_ 4 0 (nI a) (by decide) (Or.inr ⟨a, by omega, rfl⟩) hg
      cases r with
      | false => exact ⟨fun _ => ref _ (fun z => absurd z (by decide)) (fun _ => ⟨rfl, hI0⟩), fun z => absurd rfl z⟩
      | true =>
        refine ⟨fun z => absurd z (by decide), fun _ => ?_⟩
        exact x_get (b := 3) (what := 5) (of := w) (l2 := nI w) (σ := σx) (by decide) (fun _ _ => rfl) (fun _ z => absurd z (by decide)) (fun _ _ => by omega) (ref _ (fun _ => ⟨rfl, hI0⟩) (fun z => absurd z (by decide)))
theorem mK_nf {nt : Nat} {K : kFn} {σ : kS} (hO : sOk nt K) : mK (nf K) σ ↔ mK K σ := by
  obtain ⟨h6, -⟩ := hO.works
  unfold mK
  rw [nf_works, nf_0 (by decide) (by decide), nf_0 (by decide) (by decide), nf_0 (by decide) (by decide), nf_0 (by decide) (by decide), nf_0 (by decide) (by decide)]
  constructor
  · rintro ⟨a, b, c⟩
    refine ⟨fun x hx => ?_, b, fun w hw => ?_⟩
    · have := a x hx
      rw [nf_c (by decide) (by decide) hx, nf_c (by decide) (by decide) hx, nf_c (by decide) (by decide) hx] at this
      exact this
    · have := c w hw
      rw [nf_w (by decide) (by decide) (by omega), nf_w (by decide) (by decide) (by omega), nf_w (by decide) (by decide) (by omega), nf_w (by decide) (by decide) (by omega)] at this
      exact this
  · rintro ⟨a, b, c⟩
    refine ⟨fun x hx => ?_, b, fun w hw => ?_⟩
    · rw [nf_c (by decide) (by decide) hx, nf_c (by decide) (by decide) hx, nf_c (by decide) (by decide) hx]
      exact a x hx
    · rw [nf_w (by decide) (by decide) (by omega), nf_w (by decide) (by decide) (by omega), nf_w (by decide) (by decide) (by omega), nf_w (by decide) (by decide) (by omega)]
      exact c w hw
theorem nf_year9 {A B : kFn} (h : nf A = nf B) : kYear A ↔ kYear B := by
  unfold kYear
  rw [← nf_0 (A := A) (i := 9) (by decide) (by decide), ← nf_0 (A := B) (i := 9) (by decide) (by decide), h]
/-- rows of the reference are copied: n of row p to row q -/
theorem m_image {σ : kS} {Q : Int32 → kS → Prop} (h : ∀ u : kS, (∀ p : Nat, p ≠ 0 → p ≠ 10 → p ≠ 11 → u.1 p = σ.1 p) → (∀ k : Nat, (k < 36 ∨ 40 < k) → u.1 0 k = σ.1 0 k) → (∀ j : Nat, j < 36 → u.1 10 j = σ.1 4 j) → (∀ j : Nat, j < 18 → u.1 11 j = σ.1 6 j) → (u.1 0 36 = σ.1 0 13 ∧ u.1 0 37 = σ.1 0 7 ∧ u.1 0 38 = σ.1 0 8 ∧ u.1 0 39 = σ.1 0 9 ∧ u.1 0 40 = σ.1 0 4) → Q (σ.1 0 13) u) : wX5_image σ Q := by
  have two : ∀ s : kS, (∀ p : Nat, p ≠ 10 → s.1 p = σ.1 p) → (∀ j : Nat, j < 36 → s.1 10 j = σ.1 4 j) → wX5_image_28 Q (0 : Int32) s := by
    intro s z1 z2 P hP
    suffices key : ∀ r i : Nat, i + r = 18 → ∀ u : kS, (∀ p : Nat, p ≠ 11 → u.1 p = s.1 p) → (∀ j : Nat, j < i → u.1 11 j = σ.1 6 j) → P u (nI i) from key 18 0 rfl s (fun _ _ => rfl) (fun j hj => absurd hj (by omega))
    intro r
    induction r with
    | zero =>
      intro i hi u k1 k2
      have e : i = 18 := by omega
      subst e
      refine hP _ _ ⟨fun _ s5 e5 s6 e6 s7 e7 s8 e8 s9 e9 => ?_, fun q => absurd (k_at rfl) q⟩
      have u0 : u.1 0 = σ.1 0 := by rw [k1 0 (by decide), z1 0 (by decide)]
      have f5 : ∀ k : Nat, k ≠ 36 → s5.1 0 k = σ.1 0 k := fun k hk => by rw [e5, kset_ne hk, u0]
      have f6 : ∀ k : Nat, k ≠ 36 → k ≠ 37 → s6.1 0 k = σ.1 0 k := fun k h1 h2 => by rw [e6, kset_ne h2, f5 k h1]
      have f7 : ∀ k : Nat, k ≠ 36 → k ≠ 37 → k ≠ 38 → s7.1 0 k = σ.1 0 k := fun k h1 h2 h3 => by rw [e7, kset_ne h3, f6 k h1 h2]
      have f8 : ∀ k : Nat, k ≠ 36 → k ≠ 37 → k ≠ 38 → k ≠ 39 → s8.1 0 k = σ.1 0 k := fun k h1 h2 h3 h4 => by rw [e8, kset_ne h4, f7 k h1 h2 h3]
      have f9 : ∀ k : Nat, k ≠ 36 → k ≠ 37 → k ≠ 38 → k ≠ 39 → k ≠ 40 → s9.1 0 k = σ.1 0 k := fun k h1 h2 h3 h4 h5 => by rw [e9, kset_ne h5, f8 k h1 h2 h3 h4]
      have off : ∀ p : Nat, p ≠ 0 → s9.1 p = u.1 p := fun p hp => by rw [e9, kset_off hp, e8, kset_off hp, e7, kset_off hp, e6, kset_off hp, e5, kset_off hp]
      have g36 : s5.1 0 36 = σ.1 0 13 := by rw [e5, kset_at, u0]
      have g37 : s6.1 0 37 = σ.1 0 7 := by rw [e6, kset_at]; exact f5 7 (by decide)
      have g38 : s7.1 0 38 = σ.1 0 8 := by rw [e7, kset_at]; exact f6 8 (by decide) (by decide)
      have g39 : s8.1 0 39 = σ.1 0 9 := by rw [e8, kset_at]; exact f7 9 (by decide) (by decide) (by decide)
      have g40 : s9.1 0 40 = σ.1 0 4 := by rw [e9, kset_at]; exact f8 4 (by decide) (by decide) (by decide) (by decide)
      rw [f9 13 (by decide) (by decide) (by decide) (by decide) (by decide)]
      refine h s9 (fun p p0 p10 p11 => by rw [off p p0, k1 p p11, z1 p p10]) (fun k hk => f9 k (by omega) (by omega) (by omega) (by omega) (by omega)) (fun j hj => ?_) (fun j hj => ?_) ⟨?_, ?_, ?_, ?_, g40⟩
      · rw [off 10 (by decide), k1 10 (by decide)]
        exact z2 j hj
      · rw [off 11 (by decide)]
        exact k2 j hj
      · rw [e9, kset_ne (by decide), e8, kset_ne (by decide), e7, kset_ne (by decide), e6, kset_ne (by decide)]
        exact g36
      · rw [e9, kset_ne (by decide), e8, kset_ne (by decide), e7, kset_ne (by decide)]
        exact g37
      · rw [e9, kset_ne (by decide), e8, kset_ne (by decide)]
        exact g38
      · rw [e9, kset_ne (by decide)]
        exact g39
    | succ r ih =>
      intro i hi u k1 k2
      refine hP _ _ ⟨fun q => absurd q (k_ge (N := 18) (by omega) (by decide) rfl), fun _ => ⟨k_idx (by omega) (by decide), k_idx (by omega) (by decide), fun s10 e10 x ex => ?_⟩⟩
      rw [k_cl (by omega), k1 6 (by decide), z1 6 (by decide)] at e10
      rw [ex, k_n1]
      refine ih (i + 1) (by omega) s10 (fun p hp => by rw [e10, kset_off hp, k1 p hp]) (fun j hj => ?_)
      by_cases q : j = i
      · subst q
        rw [e10, kset_at]
      · rw [e10, kset_ne q]
        exact k2 j (by omega)
  intro P hP
  suffices key : ∀ r i : Nat, i + r = 36 → ∀ u : kS, (∀ p : Nat, p ≠ 10 → u.1 p = σ.1 p) → (∀ j : Nat, j < i → u.1 10 j = σ.1 4 j) → P u (nI i) from key 36 0 rfl σ (fun _ _ => rfl) (fun j hj => absurd hj (by omega))
  intro r
  induction r with
  | zero =>
    intro i hi u k1 k2
    have e : i = 36 := by omega
    subst e
    exact hP _ _ ⟨fun _ => two u k1 k2, fun q => absurd (k_at rfl) q⟩
  | succ r ih =>
    intro i hi u k1 k2
    refine hP _ _ ⟨fun q => absurd q (k_ge (N := 36) (by omega) (by decide) rfl), fun _ => ⟨k_idx (by omega) (by decide), k_idx (by omega) (by decide), fun s2 e2 x ex => ?_⟩⟩
    rw [k_cl (by omega), k1 4 (by decide)] at e2
    rw [ex, k_n1]
    refine ih (i + 1) (by omega) s2 (fun p hp => by rw [e2, kset_off hp, k1 p hp]) (fun j hj => ?_)
    by_cases q : j = i
    · subst q
      rw [e2, kset_at]
    · rw [e2, kset_ne q]
      exact k2 j (by omega)
theorem m_back {σ : kS} {Q : Int32 → kS → Prop} (h : ∀ u : kS, (∀ p : Nat, p ≠ 0 → p ≠ 4 → p ≠ 6 → u.1 p = σ.1 p) → (∀ k : Nat, k ≠ 4 → k ≠ 7 → k ≠ 8 → k ≠ 9 → k ≠ 13 → u.1 0 k = σ.1 0 k) → (∀ j : Nat, j < 36 → u.1 4 j = σ.1 10 j) → (∀ j : Nat, j < 18 → u.1 6 j = σ.1 11 j) → (u.1 0 13 = σ.1 0 36 ∧ u.1 0 7 = σ.1 0 37 ∧ u.1 0 8 = σ.1 0 38 ∧ u.1 0 9 = σ.1 0 39 ∧ u.1 0 4 = σ.1 0 40) → Q (σ.1 0 36) u) : wX5_back_13 Q (0 : Int32) σ := by
  have two : ∀ s : kS, (∀ p : Nat, p ≠ 4 → s.1 p = σ.1 p) → (∀ j : Nat, j < 36 → s.1 4 j = σ.1 10 j) → wX5_back_39 Q (0 : Int32) s := by
    intro s z1 z2 P hP
    suffices key : ∀ r i : Nat, i + r = 18 → ∀ u : kS, (∀ p : Nat, p ≠ 6 → u.1 p = s.1 p) → (∀ j : Nat, j < i → u.1 6 j = σ.1 11 j) → P u (nI i) from key 18 0 rfl s (fun _ _ => rfl) (fun j hj => absurd hj (by omega))
    intro r
    induction r with
    | zero =>
      intro i hi u k1 k2
      have e : i = 18 := by omega
      subst e
      refine hP _ _ ⟨fun _ s5 e5 s6 e6 s7 e7 s8 e8 s9 e9 => ?_, fun q => absurd (k_at rfl) q⟩
      have u0 : u.1 0 = σ.1 0 := by rw [k1 0 (by decide), z1 0 (by decide)]
      have f5 : ∀ k : Nat, k ≠ 13 → s5.1 0 k = σ.1 0 k := fun k hk => by rw [e5, kset_ne hk, u0]
      have f6 : ∀ k : Nat, k ≠ 13 → k ≠ 7 → s6.1 0 k = σ.1 0 k := fun k h1 h2 => by rw [e6, kset_ne h2, f5 k h1]
      have f7 : ∀ k : Nat, k ≠ 13 → k ≠ 7 → k ≠ 8 → s7.1 0 k = σ.1 0 k := fun k h1 h2 h3 => by rw [e7, kset_ne h3, f6 k h1 h2]
      have f8 : ∀ k : Nat, k ≠ 13 → k ≠ 7 → k ≠ 8 → k ≠ 9 → s8.1 0 k = σ.1 0 k := fun k h1 h2 h3 h4 => by rw [e8, kset_ne h4, f7 k h1 h2 h3]
      have f9 : ∀ k : Nat, k ≠ 13 → k ≠ 7 → k ≠ 8 → k ≠ 9 → k ≠ 4 → s9.1 0 k = σ.1 0 k := fun k h1 h2 h3 h4 h5 => by rw [e9, kset_ne h5, f8 k h1 h2 h3 h4]
      have off : ∀ p : Nat, p ≠ 0 → s9.1 p = u.1 p := fun p hp => by rw [e9, kset_off hp, e8, kset_off hp, e7, kset_off hp, e6, kset_off hp, e5, kset_off hp]
      have g13 : s9.1 0 13 = σ.1 0 36 := by rw [e9, kset_ne (by decide), e8, kset_ne (by decide), e7, kset_ne (by decide), e6, kset_ne (by decide), e5, kset_at, u0]
      have g7 : s9.1 0 7 = σ.1 0 37 := by rw [e9, kset_ne (by decide), e8, kset_ne (by decide), e7, kset_ne (by decide), e6, kset_at]; exact f5 37 (by decide)
      have g8 : s9.1 0 8 = σ.1 0 38 := by rw [e9, kset_ne (by decide), e8, kset_ne (by decide), e7, kset_at]; exact f6 38 (by decide) (by decide)
      have g9 : s9.1 0 9 = σ.1 0 39 := by rw [e9, kset_ne (by decide), e8, kset_at]; exact f7 39 (by decide) (by decide) (by decide)
      have g4 : s9.1 0 4 = σ.1 0 40 := by rw [e9, kset_at]; exact f8 40 (by decide) (by decide) (by decide) (by decide)
      rw [g13]
      refine h s9 (fun p p0 p4 p6 => by rw [off p p0, k1 p p6, z1 p p4]) (fun k h4 h7 h8 h9 h13 => f9 k h13 h7 h8 h9 h4) (fun j hj => ?_) (fun j hj => ?_) ⟨g13, g7, g8, g9, g4⟩
      · rw [off 4 (by decide), k1 4 (by decide)]
        exact z2 j hj
      · rw [off 6 (by decide)]
        exact k2 j hj
    | succ r ih =>
      intro i hi u k1 k2
      refine hP _ _ ⟨fun q => absurd q (k_ge (N := 18) (by omega) (by decide) rfl), fun _ => ⟨k_idx (by omega) (by decide), k_idx (by omega) (by decide), fun s10 e10 x ex => ?_⟩⟩
      rw [k_cl (by omega), k1 11 (by decide), z1 11 (by decide)] at e10
      rw [ex, k_n1]
      refine ih (i + 1) (by omega) s10 (fun p hp => by rw [e10, kset_off hp, k1 p hp]) (fun j hj => ?_)
      by_cases q : j = i
      · subst q
        rw [e10, kset_at]
      · rw [e10, kset_ne q]
        exact k2 j (by omega)
  intro P hP
  suffices key : ∀ r i : Nat, i + r = 36 → ∀ u : kS, (∀ p : Nat, p ≠ 4 → u.1 p = σ.1 p) → (∀ j : Nat, j < i → u.1 4 j = σ.1 10 j) → P u (nI i) from key 36 0 rfl σ (fun _ _ => rfl) (fun j hj => absurd hj (by omega))
  intro r
  induction r with
  | zero =>
    intro i hi u k1 k2
    have e : i = 36 := by omega
    subst e
    exact hP _ _ ⟨fun _ => two u k1 k2, fun q => absurd (k_at rfl) q⟩
  | succ r ih =>
    intro i hi u k1 k2
    refine hP _ _ ⟨fun q => absurd q (k_ge (N := 36) (by omega) (by decide) rfl), fun _ => ⟨k_idx (by omega) (by decide), k_idx (by omega) (by decide), fun s3 e3 x ex => ?_⟩⟩
    rw [k_cl (by omega), k1 10 (by decide)] at e3
    rw [ex, k_n1]
    refine ih (i + 1) (by omega) s3 (fun p hp => by rw [e3, kset_off hp, k1 p hp]) (fun j hj => ?_)
    by_cases q : j = i
    · subst q
      rw [e3, kset_at]
    · rw [e3, kset_ne q]
      exact k2 j (by omega)
theorem s_image {tx : List kTxt} {σx σm : kS} (hI : kInv tx σx σm) : wX4_image σx (kSim tx σm (wX5_image σm)) := by
  obtain ⟨a1, a2, a3, a4, a5, a6, a7, a8, a9⟩ := hI
  refine x_take (Or.inr (by decide)) (fun s1 f1 o1 s2 e2 => ?_)
  have x0 : ∀ p : Nat, p ≠ 0 → (p < 21 ∨ 29 < p) → s2.1 p = σx.1 p := fun p p0 hp => by rw [e2, kset_off p0, o1.1 p (by omega)]
  have x00 : ∀ k : Nat, k ≠ 3 → s2.1 0 k = σx.1 0 k := fun k hk => by rw [e2, kset_ne hk, o1.1 0 (by omega)]
  have f3 : fx 3 s2 = fx 3 σx := fx_eq (fun r hr => x0 _ (by omega) (by omega))
  have f21 : fx 21 s2 = fx 21 s1 := fx_eq (fun r hr => by rw [e2, kset_off (by omega)])
  have f21n : nf (fx 21 s2) = nf (fx 3 σx) := by rw [f21]; exact f1
  have ok21 : sOk tx.length (fx 21 s2) := nf_ok.mp (by rw [f21n]; exact nf_ok.mpr a4)
  have w21 : sWorks (fx 21 s2) = sWorks (fx 3 σx) := by rw [← nf_works, f21n, nf_works]
  have e11 : s2.1 3 11 = σx.1 3 11 := by rw [x0 3 (by decide) (by decide)]
  rw [e11]
  unfold kSim
  refine m_image (fun u k1 k2 k3 k4 k5 => ⟨?_, ?_⟩)
  · have := a5.2.1.2.2.2.1
    rw [nf_0 (by decide) (by decide)] at this
    exact this
  · refine ⟨⟨?_, a1.2⟩, ⟨a2.1, fun t ht => ?_⟩, ?_, ?_, ?_, ?_, ?_, ?_, fun s hs => ?_⟩
    · rw [x00 5 (by decide)]
      exact a1.1
    · rw [k1 1 (by decide) (by decide) (by decide), k1 2 (by decide) (by decide) (by decide)]
      exact a2.2 t ht
    · rw [k2 3 (by omega)]
      exact a3
    · rw [f3]; exact a4
    · rw [f3]
      obtain ⟨a, ⟨b1, b2, b3, b4, b5⟩, c⟩ := a5
      refine ⟨fun x hx => ?_, ⟨?_, ?_, ?_, ?_, ?_⟩, fun w hw => ?_⟩
      · rw [k1 4 (by decide) (by decide) (by decide)]
        exact a x hx
      · rw [k2 7 (by omega)]; exact b1
      · rw [k2 8 (by omega)]; exact b2
      · rw [k2 9 (by omega)]; exact b3
      · rw [k2 13 (by omega)]; exact b4
      · rw [k2 4 (by omega)]; exact b5
      · rw [k1 5 (by decide) (by decide) (by decide), k1 6 (by decide) (by decide) (by decide)]
        exact c w hw
    · rw [f3]; exact a6
    · refine Or.inr ⟨by rw [e2, kset_at], ok21, (nf_year9 f21n).mpr a6, by rw [w21, f3]; exact Nat.le_refl _, ?_⟩
      refine (mK_nf ok21).mp ?_
      rw [f21n]
      obtain ⟨a, ⟨b1, b2, b3, b4, b5⟩, c⟩ := a5
      have h6 := a4.works.1
      refine ⟨fun x hx => ?_, ⟨?_, ?_, ?_, ?_, ?_⟩, fun w hw => ?_⟩
      · rw [k3 _ (by omega), k3 _ (by omega), k3 _ (by omega)]
        exact a x hx
      · exact k5.2.1.trans b1
      · exact k5.2.2.1.trans b2
      · exact k5.2.2.2.1.trans b3
      · exact k5.1.trans b4
      · exact k5.2.2.2.2.trans b5
      · have hw2 := hw
        rw [nf_works] at hw2
        rw [k1 5 (by decide) (by decide) (by decide), k4 _ (by omega), k4 _ (by omega), k4 _ (by omega)]
        exact c w hw
    · obtain ⟨n, c1, c2, c3, c4⟩ := a8
      refine ⟨n, c1, ?_, ?_, fun j hj => ?_⟩
      · rw [x0 30 (by decide) (by decide)]; exact c2
      · rw [k2 6 (by omega)]; exact c3
      · rw [x0 31 (by decide) (by decide), k1 3 (by decide) (by decide) (by decide)]
        exact c4 j hj
    · have := a9 s hs
      unfold kSheet at this ⊢
      rw [x0 39 (by decide) (by decide), x0 40 (by decide) (by decide), x0 (35 + s) (by omega) (by omega), k1 12 (by decide) (by decide) (by decide), k1 13 (by decide) (by decide) (by decide), k1 14 (by decide) (by decide) (by decide), k1 15 (by decide) (by decide) (by decide)]
      exact this
theorem s_back {tx : List kTxt} {σx σm : kS} (hI : kInv tx σx σm) : wX4_back σx (kSim tx σm (wX5_back σm)) := by
  have hI0 := hI
  obtain ⟨a1, a2, a3, a4, a5, a6, a7, a8, a9⟩ := hI
  rcases a7 with ⟨b1, b2⟩ | ⟨b1, b2, b3, b4, b5⟩
  · refine ⟨fun q => absurd b1 q, fun _ => ?_⟩
    unfold kSim
    exact ⟨fun z => absurd b2 z, fun _ => ⟨rfl, hI0⟩⟩
  · refine ⟨fun _ => ?_, fun q => absurd q (by rw [b1]; decide)⟩
    refine x_take (Or.inl (by decide)) (fun s2 f2 o2 => ?_)
    have x0 : ∀ p : Nat, (p < 3 ∨ 11 < p) → s2.1 p = σx.1 p := fun p hp => o2.1 p (by omega)
    have f21 : fx 21 s2 = fx 21 σx := fx_eq (fun r hr => x0 _ (by omega))
    have ok3 : sOk tx.length (fx 3 s2) := nf_ok.mp (by rw [f2]; exact nf_ok.mpr b2)
    have w3 : sWorks (fx 3 s2) = sWorks (fx 21 σx) := by rw [← nf_works, f2, nf_works]
    have e11 : s2.1 3 11 = σx.1 21 11 := by
      have : nf (fx 3 s2) 0 11 = nf (fx 21 σx) 0 11 := by rw [f2]
      rw [nf_0 (by decide) (by decide), nf_0 (by decide) (by decide)] at this
      exact this
    have h36 : σm.1 0 36 = nI (sWorks (fx 21 σx)) := b5.2.1.2.2.2.1.trans b2.works.2
    have h6 := b2.works.1
    rw [e11]
    unfold kSim
    refine ⟨fun _ => m_back (fun u k1 k2 k3 k4 k5 => ⟨b5.2.1.2.2.2.1, ?_⟩), fun z => absurd z (by rw [h36]; exact nI_nm1 (by omega))⟩
    refine ⟨⟨?_, a1.2⟩, ⟨a2.1, fun t ht => ?_⟩, ?_, ok3, ?_, (nf_year9 f2).mpr b3, ?_, ?_, fun s hs => ?_⟩
    · rw [x0 0 (by omega)]
      exact a1.1
    · rw [k1 1 (by decide) (by decide) (by decide), k1 2 (by decide) (by decide) (by decide)]
      exact a2.2 t ht
    · rw [k2 3 (by decide) (by decide) (by decide) (by decide) (by decide)]
      exact a3
    · rw [f2]
      obtain ⟨a, ⟨c1, c2, c3, c4, c5⟩, c⟩ := (mK_nf b2).mpr b5
      refine ⟨fun x hx => ?_, ⟨?_, ?_, ?_, ?_, ?_⟩, fun w hw => ?_⟩
      · rw [k3 _ (by omega), k3 _ (by omega), k3 _ (by omega)]
        exact a x hx
      · exact k5.2.1.trans c1
      · exact k5.2.2.1.trans c2
      · exact k5.2.2.2.1.trans c3
      · exact k5.1.trans c4
      · exact k5.2.2.2.2.trans c5
      · have hw2 := hw
        rw [nf_works] at hw2
        rw [k1 5 (by decide) (by decide) (by decide), k4 _ (by omega), k4 _ (by omega), k4 _ (by omega)]
        exact c w hw
    · refine Or.inr ⟨?_, by rw [f21]; exact b2, by rw [f21]; exact b3, by rw [f21, w3]; exact Nat.le_refl _, ?_⟩
      · rw [x0 0 (by omega)]; exact b1
      · rw [f21]
        obtain ⟨a, b, c⟩ := b5
        refine ⟨fun x hx => ?_, ?_, fun w hw => ?_⟩
        · rw [k1 10 (by decide) (by decide) (by decide)]
          exact a x hx
        · rw [k2 36 (by decide) (by decide) (by decide) (by decide) (by decide), k2 37 (by decide) (by decide) (by decide) (by decide) (by decide), k2 38 (by decide) (by decide) (by decide) (by decide) (by decide), k2 39 (by decide) (by decide) (by decide) (by decide) (by decide), k2 40 (by decide) (by decide) (by decide) (by decide) (by decide)]
          exact b
        · rw [k1 5 (by decide) (by decide) (by decide), k1 11 (by decide) (by decide) (by decide)]
          exact c w hw
    · obtain ⟨n, c1, c2, c3, c4⟩ := a8
      refine ⟨n, c1, ?_, ?_, fun j hj => ?_⟩
      · rw [x0 30 (by omega)]; exact c2
      · rw [k2 6 (by decide) (by decide) (by decide) (by decide) (by decide)]; exact c3
      · rw [x0 31 (by omega), k1 3 (by decide) (by decide) (by decide)]
        exact c4 j hj
    · have := a9 s hs
      unfold kSheet at this ⊢
      rw [x0 39 (by omega), x0 40 (by omega), x0 (35 + s) (by omega), k1 12 (by decide) (by decide) (by decide), k1 13 (by decide) (by decide) (by decide), k1 14 (by decide) (by decide) (by decide), k1 15 (by decide) (by decide) (by decide)]
      exact this
