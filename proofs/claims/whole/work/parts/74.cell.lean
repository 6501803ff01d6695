/-! the two programs side by side: cell, film -/
def sNar (q v : Int32) : Int32 := if q = 0 then v.toInt8.toInt32 else if q = 1 then v.toInt16.toInt32 else v
theorem x_narrowed {q v : Int32} {Q : Int32 → Prop} (h : Q (sNar q v)) : wX2_narrowed q v Q := by
  unfold sNar at h
  refine ⟨fun q0 => ⟨fun q1 => ?_, fun q1 => ?_⟩, fun q0 => ?_⟩
  · rw [if_neg q0, if_neg q1] at h
    exact h
  · rw [if_neg q0, if_pos q1] at h
    exact h
  · rw [if_pos q0] at h
    exact h
theorem x_putI {s n i : Nat} {v : Int32} {σ : kS} {Q : kS → Prop} (hs : s < 4) (hn : n ≤ 40) (e : σ.1 40 s = nI n) (hi : i < n) (h : ∀ s' : kS, s' = kset σ (35 + s) i (sNar (σ.1 39 s) v) → Q s') : wX2_put (nI s) (nI i) v σ Q := by
  refine x_hasItem hs hn e (fun i2 h2 e2 => ⟨fun z => absurd z (by decide), fun _ => ⟨k_idx hs (by decide), k_idx hs (by decide), ?_⟩⟩) (fun z => absurd ⟨nI_pos' (by omega), nI_lt hi (by omega)⟩ z)
  rw [k_cl (by omega)]
  refine x_narrowed ⟨k_idx (by omega) (by decide), fun s6 e6 => h s6 ?_⟩
  rw [e6, k_cl (by omega)]
theorem n_40 {s i : Nat} : ((40 : Int32) * nI s) + nI i = nI (40 * s + i) := by rw [show (40 : Int32) * nI s = nI (40 * s) from pk_mul 40 s, nI_add]
theorem m_cell {s i : Nat} {v : Int32} {σ : kS} {Q : Int32 → kS → Prop} (hs : s < 4) (hi : i < 40) (h : Q 1 (kset σ 15 (40 * s + i) v)) : wX5_cell_83 Q v (((40 : Int32) * nI s) + nI i) σ := by
  unfold wX5_cell_83
  rw [n_40, k_cl (by omega)]
  exact ⟨k_idx (by omega) (by decide), fun s8 e8 => by rw [e8]; exact h⟩
theorem kSheet.put {s i : Nat} {v : Int32} {σx σm : kS} (hs : s < 4) (hi : i < 40) (h : ∀ j : Nat, j < 4 → kSheet σx σm j) : ∀ j : Nat, j < 4 → kSheet (kset σx (35 + s) i v) (kset σm 15 (40 * s + i) v) j := by
  intro j hj
  have k1 : (kset σx (35 + s) i v).1 39 = σx.1 39 := kset_off (by omega)
  have k2 : (kset σx (35 + s) i v).1 40 = σx.1 40 := kset_off (by omega)
  have k3 : (kset σm 15 (40 * s + i) v).1 12 = σm.1 12 := kset_off (by omega)
  have k4 : (kset σm 15 (40 * s + i) v).1 13 = σm.1 13 := kset_off (by omega)
  have k5 : (kset σm 15 (40 * s + i) v).1 14 = σm.1 14 := kset_off (by omega)
  unfold kSheet
  rw [k1, k2, k3, k4, k5]
  rcases h j hj with hh | ⟨b1, b2, l, b3, b4, b5, b6⟩
  · exact Or.inl hh
  · refine Or.inr ⟨b1, b2, l, b3, b4, b5, fun x hx => ?_⟩
    by_cases e : j = s
    · subst e
      by_cases q : x = i
      · subst q
        rw [kset_at, kset_at]
      · rw [kset_ne q, kset_ne (by omega)]
        exact b6 x hx
    · rw [kset_off (by omega), kset_ne (by omega)]
      exact b6 x hx
theorem s_cell {tx : List kTxt} {σx σm : kS} {l1 l2 l3 : Int32} (hI : kInv tx σx σm) : wX4_cell l1 l2 l3 σx (kSim tx σm (wX5_cell l1 l2 l3 σm)) := by
  have hI0 := hI
  obtain ⟨a1, a2, a3, a4, a5, a6, a7, a8, a9⟩ := hI
  refine x_hasS (fun s hs e => ⟨fun _ => ?_, fun z => absurd z (by decide)⟩) (fun hb => ⟨fun z => absurd rfl z, fun _ => ?_⟩)
  · subst e
    have go : ∀ R : Int32 → kS → Prop, ((σm.1 12 s ≠ 0 → wX5_in l2.toInt64 (0 : Int64) (((σm.1 14 s) - (1 : Int32)).toInt64) (fun r4 => (r4 ≠ 0 → ((σm.1 13 s) ≠ 0 → ((σm.1 13 s) ≠ (1 : Int32) → wX5_cell_83 R l3 (((40 : Int32) * nI s) + l2) σm) ∧ ((σm.1 13 s) = (1 : Int32) → wX5_cell_83 R l3.toInt16.toInt32 (((40 : Int32) * nI s) + l2) σm)) ∧ ((σm.1 13 s) = 0 → wX5_cell_83 R l3.toInt8.toInt32 (((40 : Int32) * nI s) + l2) σm)) ∧ (r4 = 0 → R (-12 : Int32) σm))) ∧ (σm.1 12 s = 0 → R (-11 : Int32) σm)) → wX5_cell (nI s) l2 l3 σm R := by
      intro R hr
      have ix : vp_in (nI s) 4 := k_idx hs (by decide)
      refine m_isSheet (fun _ => ⟨fun _ => ⟨ix, ?_⟩, fun z => absurd z (by decide)⟩) (fun z => absurd (nI_3 hs) z)
      rw [k_cl (by omega)]
      refine ⟨fun q => ⟨ix, ?_⟩, hr.2⟩
      have h1 := hr.1 q
      refine m_in32 (lo := 0) (hi := σm.1 14 s - (1 : Int32)) (by decide) rfl (fun z => ⟨fun _ => ⟨ix, ?_⟩, fun y => absurd y (by decide)⟩) (fun z => ⟨fun y => absurd rfl y, fun _ => ?_⟩)
      · have h2 := h1
        obtain ⟨h3, h4⟩ := h2
        have nlt : ¬ lg_cmp l2.toInt64 (0 : Int64) < 0 := fun y => Int32.not_le.mpr (i_l64.mp ((lg_cmp_lt _ _).mp y : l2.toInt64 < (0 : Int32).toInt64)) z.1
        have ngt : ¬ 0 < lg_cmp l2.toInt64 ((σm.1 14 s - (1 : Int32)).toInt64) := fun y => Int32.not_le.mpr (i_l64.mp ((lg_cmp_gt _ _).mp y)) z.2
        obtain ⟨h6, h7⟩ := ((h4 nlt).2 ngt).1 (by decide)
        exact ⟨fun y => ⟨ix, h6 y⟩, h7⟩
      · obtain ⟨h3, h4⟩ := h1
        by_cases y : lg_cmp l2.toInt64 (0 : Int64) < 0
        · exact (h3 y).2 rfl
        · by_cases y2 : 0 < lg_cmp l2.toInt64 ((σm.1 14 s - (1 : Int32)).toInt64)
          · exact ((h4 y).1 y2).2 rfl
          · exact absurd ⟨Int32.not_lt.mp (fun w => y ((lg_cmp_lt _ _).mpr (i_l64.mpr w : l2.toInt64 < (0 : Int32).toInt64))), Int32.not_lt.mp (fun w => y2 ((lg_cmp_gt _ _).mpr (i_l64.mpr w)))⟩ z
    unfold kSim
    refine x_missing hs (fun q => ⟨fun z => absurd z (by decide), fun _ => ?_⟩) (fun q => ⟨fun _ => ?_, fun z => absurd rfl z⟩)
    · rcases a9 s hs with ⟨b1, b2⟩ | ⟨⟨p, b1, b2, b3⟩, b4, n, b5, b6, b7, b8⟩
      · exact go _ ⟨fun z => absurd b2 z, fun _ => ⟨rfl, hI0⟩⟩
      · rw [b2] at q
        exact absurd q (nI_nm1 (by omega))
    · rcases a9 s hs with ⟨b1, b2⟩ | ⟨⟨p, b1, b2, b3⟩, b4, n, b5, b6, b7, b8⟩
      · exact absurd b1 q
      · have there : ¬ σm.1 12 s = 0 := by rw [b4]; decide
        refine x_hasItem hs b5 b6 (fun i hi e => ⟨fun _ => ?_, fun z => absurd z (by decide)⟩) (fun hb => ⟨fun z => absurd rfl z, fun _ => ?_⟩)
        · subst e
          refine x_putI hs b5 b6 hi (fun s1 e1 => ?_)
          refine go _ ⟨fun _ => m_in32 (lo := 0) (hi := σm.1 14 s - (1 : Int32)) (by decide) rfl (fun _ => ⟨fun _ => ?_, fun z => absurd z (by decide)⟩) (fun z => ?_), fun z => absurd z there⟩
          · have fin : ∀ v : Int32, v = sNar (σx.1 39 s) l3 → (fun r' σm' => r' = 1 ∧ kInv tx s1 σm') (1 : Int32) (kset σm 15 (40 * s + i) v) := by
              intro v hv
              refine ⟨rfl, hI0.sh (fun p hp => by rw [e1, kset_off (by omega)]) (fun p hp => kset_off (by omega)) ?_⟩
              rw [e1, ← hv]
              exact kSheet.put hs (by omega) a9
            rw [b3]
            refine ⟨fun q0 => ⟨fun q1 => m_cell hs (by omega) (fin _ ?_), fun q1 => m_cell hs (by omega) (fin _ ?_)⟩, fun q0 => m_cell hs (by omega) (fin _ ?_)⟩
            · unfold sNar
              rw [b2, if_neg q0, if_neg q1]
            · unfold sNar
              rw [b2, if_neg q0, if_pos q1]
            · unfold sNar
              rw [b2, if_pos q0]
          · rw [b7, show n = (n - 1) + 1 by omega, nI_pred] at z
            exact absurd ⟨nI_pos' (by omega), nI_le (by omega) (by omega)⟩ z
        · refine go _ ⟨fun _ => m_in32 (lo := 0) (hi := σm.1 14 s - (1 : Int32)) (by decide) rfl (fun z => ?_) (fun _ => ⟨fun z => absurd rfl z, fun _ => ⟨rfl, hI0⟩⟩), fun z => absurd z there⟩
          refine absurd ⟨z.1, ?_⟩ hb
          rw [b7] at z
          obtain ⟨i, hi, ei⟩ := nI_of (x := l2) (Int32.not_lt.mpr z.1)
          rcases Nat.eq_zero_or_pos n with hn0 | hn0
          · rw [hn0] at z
            exact absurd (Int32.le_trans z.1 z.2) (by decide)
          · rw [show n = (n - 1) + 1 by omega, nI_pred, ei] at z
            have := (nI_leI hi (by omega)).mp z.2
            rw [ei]
            exact nI_lt (by omega) (by omega)
  · unfold kSim
    exact m_isSheet (fun z => absurd z hb) (fun _ => ⟨fun z => absurd rfl z, fun _ => ⟨rfl, hI0⟩⟩)
theorem set16_2 : ∀ a : Nat, a < 64 → ∀ b : Nat, b < 64 → (nI (64 * a + b)).toInt16.toInt32 = nI (64 * a + b) := by decide +kernel
theorem set16 {x : Int32} (h : isSet x) : x.toInt16.toInt32 = x := by
  obtain ⟨n, hn, e⟩ := h
  subst e
  have e := set16_2 (n / 64) (by omega) (n % 64) (by omega)
  rw [show 64 * (n / 64) + n % 64 = n by omega] at e
  exact e
theorem x_filmL {tx : List kTxt} {s n : Nat} {D : Nat → Int32} {σ : kS} {Q : Int32 → kS → Prop} (hs : s < 4) (hn : n ≤ 30) (e40 : σ.1 40 s = nI n) (e39 : σ.1 39 s = 1) (hD : ∀ i : Nat, i < n → σ.1 1 i = D i ∧ isSet (D i)) (h : ∀ u : kS, (∀ p : Nat, p ≠ 35 + s → u.1 p = σ.1 p) → (∀ i : Nat, i < n → u.1 (35 + s) i = D i) → Q (nI n) u) : wX4_film_38 tx Q (nI s) (nI n) (0 : Int32) σ := by
  intro P hP
  suffices key : ∀ r i : Nat, i + r = n → ∀ u : kS, (∀ p : Nat, p ≠ 35 + s → u.1 p = σ.1 p) → (∀ j : Nat, j < i → u.1 (35 + s) j = D j) → P u (nI i) from key n 0 (by omega) σ (fun _ _ => rfl) (fun j hj => absurd hj (by omega))
  intro r
  induction r with
  | zero =>
    intro i hi u k1 k2
    have e : i = n := by omega
    subst e
    exact hP _ _ ⟨fun _ => h u k1 k2, fun q => absurd (Int32.le_refl _) q⟩
  | succ r ih =>
    intro i hi u k1 k2
    have u40 : u.1 40 s = nI n := by rw [k1 40 (by omega)]; exact e40
    have u39 : u.1 39 s = 1 := by rw [k1 39 (by omega)]; exact e39
    have u1 : u.1 1 = σ.1 1 := k1 1 (by omega)
    obtain ⟨d1, d2⟩ := hD i (by omega)
    refine hP _ _ ⟨fun q => absurd q (nI_ge (by omega) (by omega)), fun _ => ⟨k_idx (by omega) (by decide), ?_⟩⟩
    rw [k_cl (by omega), u1, d1]
    refine x_putI hs (by omega) u40 (by omega) (fun s2 e2 x ex => ?_)
    rw [u39] at e2
    have e3 : sNar 1 (D i) = D i := set16 d2
    rw [e3] at e2
    rw [ex, k_n1]
    refine ih (i + 1) (by omega) s2 (fun p hp => by rw [e2, kset_off hp, k1 p hp]) (fun j hj => ?_)
    by_cases q : j = i
    · subst q
      rw [e2, kset_at]
    · rw [e2, kset_ne q]
      exact k2 j (by omega)
theorem m_filmL {s n : Nat} {D : Nat → Int32} {σ : kS} {Q : Int32 → kS → Prop} (hs : s < 4) (hn : n ≤ 30) (hD : ∀ i : Nat, i < n → σ.1 9 i = D i) (h : ∀ u : kS, (∀ p : Nat, p ≠ 15 → u.1 p = σ.1 p) → (∀ j : Nat, (j < 40 * s ∨ 40 * s + 40 ≤ j) → u.1 15 j = σ.1 15 j) → (∀ i : Nat, i < n → u.1 15 (40 * s + i) = D i) → Q (nI n) u) : wX5_film_39 Q (nI s) (nI n) (0 : Int32) σ := by
  intro P hP
  suffices key : ∀ r i : Nat, i + r = n → ∀ u : kS, (∀ p : Nat, p ≠ 15 → u.1 p = σ.1 p) → (∀ j : Nat, (j < 40 * s ∨ 40 * s + 40 ≤ j) → u.1 15 j = σ.1 15 j) → (∀ j : Nat, j < i → u.1 15 (40 * s + j) = D j) → P u (nI i) from key n 0 (by omega) σ (fun _ _ => rfl) (fun _ _ => rfl) (fun j hj => absurd hj (by omega))
  intro r
  induction r with
  | zero =>
    intro i hi u k1 k2 k3
    have e : i = n := by omega
    subst e
    exact hP _ _ ⟨fun _ => h u k1 k2 k3, fun q => absurd (Int32.le_refl _) q⟩
  | succ r ih =>
    intro i hi u k1 k2 k3
    refine hP _ _ ⟨fun q => absurd q (nI_ge (by omega) (by omega)), fun _ => ⟨k_idx (by omega) (by decide), ?_⟩⟩
    rw [n_40, k_cl (by omega), k_cl (by omega)]
    refine ⟨k_idx (by omega) (by decide), fun s9 e9 x ex => ?_⟩
    rw [k1 9 (by decide), hD i (by omega)] at e9
    rw [ex, k_n1]
    refine ih (i + 1) (by omega) s9 (fun p hp => by rw [e9, kset_off hp, k1 p hp]) (fun j hj => ?_) (fun j hj => ?_)
    · rw [e9, kset_ne (by omega)]
      exact k2 j hj
    · by_cases q : j = i
      · subst q
        rw [e9, kset_at]
      · rw [e9, kset_ne (by omega)]
        exact k3 j (by omega)
theorem s_film {tx : List kTxt} {σx σm : kS} {l1 l2 : Int32} (hI : kInv tx σx σm) : wX4_film tx l1 l2 σx (kSim tx σm (wX5_film l1 l2 σm)) := by
  have hI0 := hI
  obtain ⟨a1, a2, a3, a4, a5, a6, a7, a8, a9⟩ := hI
  have hO := nf_ok.mpr a4
  refine x_hasS (fun s hs e => ⟨fun z => absurd z (by decide), fun _ => x_areYears (fun n hn en => ⟨fun _ => ?_, fun z => absurd z (by decide)⟩) (fun q => ⟨fun z => absurd rfl z, fun _ => ?_⟩)⟩) (fun hb => ⟨fun _ => ?_, fun z => absurd rfl z⟩)
  · subst e en
    refine x_years hn a1 a4 (fun s1 o1 f1 d1 => x_make hs (by omega) (fun s2 x1 x2 x3 x4 x5 => x_filmL (D := sDrys (sW tx) false 0 (nf (fx 3 σx))) hs hn x4 x3 (fun i hi => ⟨?_, sDry_set⟩) (fun s3 y1 y2 => ?_)))
    · rw [x1 1 (by omega) (by omega) (by omega)]
      exact d1 i hi
    · unfold kSim wX5_film
      refine m_isSheet (fun _ => ⟨fun z => absurd z (by decide), fun _ => m_years (fun _ => ⟨fun _ => ?_, fun z => absurd z (by decide)⟩) (fun z => absurd (nI_30 hn) z)⟩) (fun z => absurd (nI_3 hs) z)
      refine m_runs (d := false) hn rfl a2 hO a5 (fun t1 u1 d2 _ _ _ => ?_)
      refine m_isSheet (fun _ => ⟨fun z => absurd z (by decide), fun _ => m_in32 (lo := -1) (hi := 2) (by decide) (by decide) (fun _ => ⟨fun y => absurd y (by decide), fun _ => ?_⟩) (fun z => absurd (by decide) z)⟩) (fun z => absurd (nI_3 hs) z)
      have n40 : nI n ≤ (40 : Int32) := nI_le (b := 40) (by omega) (by decide)
      have n0 : 0 ≤ nI n := nI_pos' (by omega)
      refine ⟨fun z => absurd z (by decide), fun _ => ⟨fun _ => ⟨fun z => absurd z (by decide), fun _ => ⟨fun _ => ⟨fun z => absurd z (by decide), fun _ => ?_⟩, fun z => absurd n0 z⟩⟩, fun z => absurd n40 z⟩⟩
      refine m_sheet59 (th := 1) hs (by omega) (by decide) (fun t2 m1 m2 m3 m4 m5 => m_filmL (D := sDrys (sW tx) false 0 (nf (fx 3 σx))) hs hn (fun i hi => ?_) (fun t3 v1 v2 v3 => ⟨rfl, ?_⟩))
      · rw [m1.1 9 (by decide)]
        exact d2 i hi
      · have hu := hI0.u o1 u1
        refine hu.sh (fun p hp => ?_) (fun p hp => ?_) ?_
        · rw [y1 p (by omega), x1 p (by omega) (by omega) (by omega)]
        · rw [v1 p (by omega), m1.1 p hp]
        · refine kSheet.new (q := 1) (n := n) hs (by omega) (by decide) hu.2.2.2.2.2.2.2.2 (fun p h1 h2 h3 => ?_) (fun j hj => ?_) ?_ ?_ ⟨fun p hp => ?_, fun j hj => ?_, fun j hj => ?_⟩ ?_ ?_ ?_ (fun i hi => ?_)
          · rw [y1 p h1, x1 p h1 h2 h3]
          · rw [y1 39 (by omega), y1 40 (by omega)]
            exact x2 j hj
          · rw [y1 39 (by omega)]
            exact x3
          · rw [y1 40 (by omega)]
            exact x4
          · rw [v1 p (by omega), m1.1 p hp]
          · rw [v1 12 (by decide), v1 13 (by decide), v1 14 (by decide)]
            exact m1.2.1 j hj
          · rw [v2 j hj, m1.2.2 j hj]
          · rw [v1 12 (by decide)]; exact m2
          · rw [v1 13 (by decide)]; exact m3
          · rw [v1 14 (by decide)]; exact m4
          · rw [y2 i hi, v3 i hi]
  · subst e
    unfold kSim wX5_film
    exact m_isSheet (fun _ => ⟨fun z => absurd z (by decide), fun _ => m_years (fun z => absurd z q) (fun _ => ⟨fun z => absurd rfl z, fun _ => ⟨rfl, hI0⟩⟩)⟩) (fun z => absurd (nI_3 hs) z)
  · unfold kSim wX5_film
    exact m_isSheet (fun z => absurd z hb) (fun _ => ⟨fun _ => ⟨rfl, hI0⟩, fun z => absurd rfl z⟩)
