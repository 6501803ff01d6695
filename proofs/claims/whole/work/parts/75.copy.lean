/-! the two programs side by side: copy, works -/
theorem x_hasItems {s n : Nat} {l k : Int32} {σ : kS} {Q : Int32 → kS → Prop} (hs : s < 4) (hn : n ≤ 40) (e : σ.1 40 s = nI n) (h1 : ∀ i m : Nat, i + m ≤ n → l = nI i → k = nI m → Q 1 σ) (h0 : ¬ (0 ≤ l ∧ 0 ≤ k ∧ l ≤ nI n - k) → Q 0 σ) : wX2_hasItems (nI s) l k σ Q := by
  refine ⟨fun q => h0 (fun z => Int32.not_le.mpr q z.1), fun q => ⟨fun q2 => h0 (fun z => Int32.not_le.mpr q2 z.2.1), fun q2 => x_size hs ⟨fun q3 => h0 (fun z => ?_), fun q3 => ?_⟩⟩⟩
  · rw [e] at q3
    exact Int32.not_le.mpr q3 z.2.2
  · rw [e] at q3
    obtain ⟨i, hi, ei⟩ := nI_of (x := l) q
    obtain ⟨m, hm, em⟩ := nI_of (x := k) q2
    refine h1 i m ?_ ei em
    rw [ei, em] at q3
    rcases Nat.lt_or_ge n m with z | z
    · refine absurd (Int32.lt_of_lt_of_le ?_ (nI_pos' hi)) q3
      rw [i_lt, i_sub (by rw [nI_toInt (by omega), nI_toInt hm]; omega), nI_toInt (by omega), nI_toInt hm]
      show (n : Int) - m < 0
      omega
    · rw [pk_sub z] at q3
      have := (nI_leI hi (by omega)).mp (Int32.not_lt.mp q3)
      omega
theorem kSheet.copy {s o i j n ns no : Nat} {σx σm σx' σm' : kS} (hs : s < 4) (ho : o < 4) (h : ∀ x : Nat, x < 4 → kSheet σx σm x) (es : σx.1 40 s = nI ns) (eo : σx.1 40 o = nI no) (ms : ∀ x : Nat, x < ns → σx.1 (35 + s) x = σm.1 15 (40 * s + x)) (hi : i + n ≤ ns) (hj : j + n ≤ no) (hns : ns ≤ 40) (hno : no ≤ 40) (x1 : ∀ p : Nat, p ≠ 35 + o → σx'.1 p = σx.1 p) (x2 : σx'.1 (35 + o) = va_cpy (σx.1 (35 + s)) (σx.1 (35 + o)) i j n) (m1 : ∀ p : Nat, p ≠ 15 → σm'.1 p = σm.1 p) (m2 : ∀ x : Nat, (x < 40 * o + j ∨ 40 * o + j + n ≤ x) → σm'.1 15 x = σm.1 15 x) (m3 : ∀ q : Nat, q < n → σm'.1 15 (40 * o + j + q) = σm.1 15 (40 * s + i + q)) : ∀ x : Nat, x < 4 → kSheet σx' σm' x := by
  intro x hx
  have k1 : σx'.1 39 = σx.1 39 := x1 39 (by omega)
  have k2 : σx'.1 40 = σx.1 40 := x1 40 (by omega)
  unfold kSheet
  rw [k1, k2, m1 12 (by decide), m1 13 (by decide), m1 14 (by decide)]
  rcases h x hx with hh | ⟨b1, b2, l, b3, b4, b5, b6⟩
  · exact Or.inl hh
  · refine Or.inr ⟨b1, b2, l, b3, b4, b5, fun y hy => ?_⟩
    by_cases e : x = o
    · subst e
      have el : l = no := (nI_eq (by omega) (by omega)).mp (b4.symm.trans eo)
      subst el
      rw [x2]
      by_cases q : j ≤ y ∧ y < j + n
      · rw [pk_cpy_in q.1 q.2, ms _ (by omega)]
        have := m3 (y - j) (by omega)
        rw [show 40 * x + j + (y - j) = 40 * x + y by omega, show 40 * s + i + (y - j) = 40 * s + (i + (y - j)) by omega] at this
        exact this.symm
      · rw [pk_cpy_out (by omega), m2 _ (by omega)]
        exact b6 y hy
    · rw [x1 _ (by omega), m2 _ (by omega)]
      exact b6 y hy
theorem m_copyL {s o i j n : Nat} {up : Bool} {l6 : Int32} {σ : kS} {Q : Int32 → kS → Prop} (hs : s < 4) (ho : o < 4) (hi : i + n ≤ 40) (hj : j + n ≤ 40) (hu : l6 = if up = true then 1 else 0) (hd : up = true → s = o ∧ i < j) (hd2 : up = false → s = o → j ≤ i)
    (h : ∀ u : kS, (∀ p : Nat, p ≠ 15 → u.1 p = σ.1 p) → (∀ x : Nat, (x < 40 * o + j ∨ 40 * o + j + n ≤ x) → u.1 15 x = σ.1 15 x) → (∀ q : Nat, q < n → u.1 15 (40 * o + j + q) = σ.1 15 (40 * s + i + q)) → Q (nI n) u) : wX5_copy_121 Q (nI s) (nI i) (nI o) (nI j) (nI n) l6 (0 : Int32) σ := by
  have ix : ∀ a b c : Nat, (((40 : Int32) * nI a) + nI b) + nI c = nI (40 * a + b + c) := fun a b c => by rw [n_40, nI_add]
  intro P hP
  cases up with
  | false =>
    have hu : l6 = 0 := hu
    suffices key : ∀ r k : Nat, k + r = n → ∀ u : kS, (∀ p : Nat, p ≠ 15 → u.1 p = σ.1 p) → (∀ x : Nat, (x < 40 * o + j ∨ 40 * o + j + k ≤ x) → u.1 15 x = σ.1 15 x) → (∀ q : Nat, q < k → u.1 15 (40 * o + j + q) = σ.1 15 (40 * s + i + q)) → P u (nI k) from key n 0 (by omega) σ (fun _ _ => rfl) (fun _ _ => rfl) (fun q hq => absurd hq (by omega))
    intro r
    induction r with
    | zero =>
      intro k hk u k1 k2 k3
      have e : k = n := by omega
      subst e
      exact hP _ _ ⟨fun _ => h u k1 k2 k3, fun q => absurd (Int32.le_refl _) q⟩
    | succ r ih =>
      intro k hk u k1 k2 k3
      refine hP _ _ ⟨fun q => absurd q (nI_ge (by omega) (by omega)), fun _ => ⟨fun _ => ?_, fun z => absurd hu z⟩⟩
      unfold wX5_copy_145
      rw [ix, ix]
      refine ⟨k_idx (by omega) (by decide), k_idx (by omega) (by decide), fun s17 e17 x ex => ?_⟩
      rw [k_cl (by omega), k_cl (by omega)] at e17
      have rd : u.1 15 (40 * s + i + k) = σ.1 15 (40 * s + i + k) := by
        refine k2 _ ?_
        by_cases q : s = o
        · have := hd2 rfl q
          omega
        · omega
      rw [rd] at e17
      rw [ex, k_n1]
      refine ih (k + 1) (by omega) s17 (fun p hp => by rw [e17, kset_off hp, k1 p hp]) (fun y hy => ?_) (fun q hq => ?_)
      · rw [e17, kset_ne (by omega)]
        exact k2 y (by omega)
      · by_cases e : q = k
        · subst e
          rw [e17, kset_at]
        · rw [e17, kset_ne (by omega)]
          exact k3 q (by omega)
  | true =>
    have hu : l6 = 1 := hu
    obtain ⟨hso, hij⟩ := hd rfl
    suffices key : ∀ r k : Nat, k + r = n → ∀ u : kS, (∀ p : Nat, p ≠ 15 → u.1 p = σ.1 p) → (∀ x : Nat, (x < 40 * o + j + r ∨ 40 * o + j + n ≤ x) → u.1 15 x = σ.1 15 x) → (∀ q : Nat, r ≤ q → q < n → u.1 15 (40 * o + j + q) = σ.1 15 (40 * s + i + q)) → P u (nI k) from key n 0 (by omega) σ (fun _ _ => rfl) (fun _ _ => rfl) (fun q h1 h2 => absurd h2 (by omega))
    intro r
    induction r with
    | zero =>
      intro k hk u k1 k2 k3
      have e : k = n := by omega
      subst e
      exact hP _ _ ⟨fun _ => h u k1 k2 (fun q hq => k3 q (by omega) hq), fun q => absurd (Int32.le_refl _) q⟩
    | succ r ih =>
      intro k hk u k1 k2 k3
      refine hP _ _ ⟨fun q => absurd q (nI_ge (by omega) (by omega)), fun _ => ⟨fun z => absurd z (by rw [hu]; decide), fun _ => ?_⟩⟩
      have e2 : (nI n - (1 : Int32)) - nI k = nI r := by
        rw [show n = (n - 1) + 1 by omega, nI_pred, pk_sub (by omega), show n - 1 - k = r by omega]
      unfold wX5_copy_145
      rw [e2, ix, ix]
      refine ⟨k_idx (by omega) (by decide), k_idx (by omega) (by decide), fun s17 e17 x ex => ?_⟩
      rw [k_cl (by omega), k_cl (by omega)] at e17
      have rd : u.1 15 (40 * s + i + r) = σ.1 15 (40 * s + i + r) := k2 _ (by omega)
      rw [rd] at e17
      rw [ex, k_n1]
      refine ih (k + 1) (by omega) s17 (fun p hp => by rw [e17, kset_off hp, k1 p hp]) (fun y hy => ?_) (fun q h1 h2 => ?_)
      · rw [e17, kset_ne (by omega)]
        exact k2 y (by omega)
      · by_cases e : q = r
        · subst e
          rw [e17, kset_at]
        · rw [e17, kset_ne (by omega)]
          exact k3 q (by omega) h2
theorem s_copy {tx : List kTxt} {σx σm : kS} {l1 l2 l3 l4 l5 : Int32} (hI : kInv tx σx σm) : wX4_copy l1 l2 l3 l4 l5 σx (kSim tx σm (wX5_copy l1 l2 l3 l4 l5 σm)) := by
  have hI0 := hI
  obtain ⟨a1, a2, a3, a4, a5, a6, a7, a8, a9⟩ := hI
  refine x_hasS (fun s hs e => ⟨fun z => absurd z (by decide), fun _ => x_hasS (fun o ho eo => ⟨fun _ => ?_, fun z => absurd z (by decide)⟩) (fun hb => ⟨fun z => absurd rfl z, fun _ => ?_⟩)⟩) (fun hb => ⟨fun _ => ?_, fun z => absurd rfl z⟩)
  · subst e eo
    have ixs : vp_in (nI s) 4 := k_idx hs (by decide)
    have ixo : vp_in (nI o) 4 := k_idx ho (by decide)
    unfold kSim
    refine x_missing hs (fun q => ⟨fun _ => ?_, fun z => absurd z (by decide)⟩) (fun q => ⟨fun z => absurd rfl z, fun _ => x_missing ho (fun q2 => ⟨fun z => absurd z (by decide), fun _ => ?_⟩) (fun q2 => ⟨fun _ => x_sort hs (x_sort ho ⟨fun q3 => ?_, fun q3 => ?_⟩), fun z => absurd rfl z⟩)⟩)
    · rcases a9 s hs with ⟨b1, b2⟩ | ⟨⟨p, b1, b2, b3⟩, b4, n, b5, b6, b7, b8⟩
      · refine m_isSheet (fun _ => ⟨fun z => absurd z (by decide), fun _ => m_isSheet (fun _ => ⟨fun _ => ⟨ixs, ?_⟩, fun z => absurd z (by decide)⟩) (fun z => absurd (nI_3 ho) z)⟩) (fun z => absurd (nI_3 hs) z)
        rw [k_cl (by omega)]
        exact ⟨fun _ => ⟨rfl, hI0⟩, fun z => absurd b2 z⟩
      · rw [b2] at q
        exact absurd q (nI_nm1 (by omega))
    · rcases a9 s hs with ⟨b1, b2⟩ | ⟨⟨p, b1, b2, b3⟩, b4, n, b5, b6, b7, b8⟩
      · exact absurd b1 q
      · rcases a9 o ho with ⟨c1, c2⟩ | ⟨⟨p', c1, c2, c3⟩, c4, n', c5, c6, c7, c8⟩
        · refine m_isSheet (fun _ => ⟨fun z => absurd z (by decide), fun _ => m_isSheet (fun _ => ⟨fun _ => ⟨ixs, ?_⟩, fun z => absurd z (by decide)⟩) (fun z => absurd (nI_3 ho) z)⟩) (fun z => absurd (nI_3 hs) z)
          rw [k_cl (by omega), k_cl (by omega)]
          exact ⟨fun z => absurd z (by rw [b4]; decide), fun _ => ⟨ixo, fun z => absurd c2 z, fun _ => ⟨rfl, hI0⟩⟩⟩
        · rw [c2] at q2
          exact absurd q2 (nI_nm1 (by omega))
    · rcases a9 s hs with ⟨b1, b2⟩ | ⟨⟨p, b1, b2, b3⟩, b4, n, b5, b6, b7, b8⟩
      · exact absurd b1 q
      · rcases a9 o ho with ⟨c1, c2⟩ | ⟨⟨p', c1, c2, c3⟩, c4, n', c5, c6, c7, c8⟩
        · exact absurd c1 q2
        · have go : ∀ R : Int32 → kS → Prop, ((l5 < 0 → R (-12 : Int32) σm) ∧ (¬ l5 < 0 → (l2 < 0 → R (-12 : Int32) σm) ∧ (¬ l2 < 0 → (l4 < 0 → R (-12 : Int32) σm) ∧ (¬ l4 < 0 → ((nI n - l5) < l2 → R (-12 : Int32) σm) ∧ (¬ (nI n - l5) < l2 → (l4 ≤ (nI n' - l5) → (nI s ≠ nI o → wX5_copy_121 R (nI s) l2 (nI o) l4 l5 (0 : Int32) (0 : Int32) σm) ∧ (nI s = nI o → (l4 ≤ l2 → wX5_copy_121 R (nI s) l2 (nI o) l4 l5 (0 : Int32) (0 : Int32) σm) ∧ (¬ l4 ≤ l2 → wX5_copy_121 R (nI s) l2 (nI o) l4 l5 (1 : Int32) (0 : Int32) σm))) ∧ (¬ l4 ≤ (nI n' - l5) → R (-12 : Int32) σm)))))) → wX5_copy (nI s) l2 (nI o) l4 l5 σm R := by
            intro R hr
            refine m_isSheet (fun _ => ⟨fun z => absurd z (by decide), fun _ => m_isSheet (fun _ => ⟨fun _ => ⟨ixs, ?_⟩, fun z => absurd z (by decide)⟩) (fun z => absurd (nI_3 ho) z)⟩) (fun z => absurd (nI_3 hs) z)
            rw [k_cl (by omega), k_cl (by omega), b7, c7]
            refine ⟨fun z => absurd z (by rw [b4]; decide), fun _ => ⟨ixo, fun _ => ⟨ixs, ixo, fun _ => ⟨hr.1, fun r1 => ⟨(hr.2 r1).1, fun r2 => ⟨((hr.2 r1).2 r2).1, fun r3 => ⟨ixs, (((hr.2 r1).2 r2).2 r3).1, fun r4 => ⟨ixo, (((hr.2 r1).2 r2).2 r3).2 r4⟩⟩⟩⟩⟩, fun z => ?_⟩, fun z => absurd z (by rw [c4]; decide)⟩⟩
            rw [b3, c3] at z
            rw [b2, c2] at q3
            exact absurd q3 z
          refine x_hasItems hs b5 b6 (fun i m him ei em => ⟨fun z => absurd z (by decide), fun _ => x_hasItems ho c5 c6 (fun j m2 hjm ej em2 => ⟨fun _ => ?_, fun z => absurd z (by decide)⟩) (fun hb => ⟨fun z => absurd rfl z, fun _ => ?_⟩)⟩) (fun hb => ⟨fun _ => ?_, fun z => absurd rfl z⟩)
          · subst ei em ej
            have : m2 = m := by
              by_cases hh : m2 < 2 ^ 31
              · exact ((nI_eq (by omega) hh).mp em2).symm
              · omega
            subst this
            refine x_hasItems hs b5 b6 (fun _ _ _ _ _ => ⟨fun z => absurd z (by decide), fun _ => x_hasItems ho c5 c6 (fun _ _ _ _ _ => ⟨fun z => absurd z (by decide), fun _ => ⟨ixs, ixo, ?_⟩⟩) (fun z => ?_)⟩) (fun z => ?_)
            · rw [k_cl (by omega), k_cl (by omega), k_cl (by omega), k_cl (by omega), k_cl (by omega)]
              refine ⟨⟨k_nn (by omega), k_nn (by omega), k_nn (by omega), by omega, by omega⟩, fun s9 e9 => ?_⟩
              have fin : ∀ u : kS, (∀ p : Nat, p ≠ 15 → u.1 p = σm.1 p) → (∀ x : Nat, (x < 40 * o + j ∨ 40 * o + j + m2 ≤ x) → u.1 15 x = σm.1 15 x) → (∀ q : Nat, q < m2 → u.1 15 (40 * o + j + q) = σm.1 15 (40 * s + i + q)) → kInv tx s9 u := by
                intro u k1 k2 k3
                refine hI0.sh (fun p hp => by rw [e9, kput_off (by omega)]) (fun p hp => k1 p (by omega)) ?_
                exact kSheet.copy hs ho a9 b6 c6 b8 him hjm b5 c5 (fun p hp => by rw [e9, kput_off hp]) (by rw [e9, kput_at]) k1 k2 k3
              have lei : ¬ nI n - nI m2 < nI i := by
                rw [pk_sub (by omega)]
                exact nI_nlt (by omega) (by omega)
              have lej : nI j ≤ nI n' - nI m2 := by
                rw [pk_sub (by omega)]
                exact nI_le (by omega) (by omega)
              refine go _ ⟨fun z => absurd z (k_nn (by omega)), fun _ => ⟨fun z => absurd z (k_nn (by omega)), fun _ => ⟨fun z => absurd z (k_nn (by omega)), fun _ => ⟨fun z => absurd z lei, fun _ => ⟨fun _ => ⟨fun z => ?_, fun z => ⟨fun z2 => ?_, fun z2 => ?_⟩⟩, fun z => absurd lej z⟩⟩⟩⟩⟩
              · exact m_copyL (up := false) hs ho (by omega) (by omega) rfl (fun y => by cases y) (fun _ y => absurd (by rw [y]) z) (fun u k1 k2 k3 => ⟨rfl, fin u k1 k2 k3⟩)
              · exact m_copyL (up := false) hs ho (by omega) (by omega) rfl (fun y => by cases y) (fun _ _ => (nI_leI (by omega) (by omega)).mp z2) (fun u k1 k2 k3 => ⟨rfl, fin u k1 k2 k3⟩)
              · refine m_copyL (up := true) hs ho (by omega) (by omega) rfl (fun _ => ⟨(nI_eq (by omega) (by omega)).mp z, ?_⟩) (fun y => by cases y) (fun u k1 k2 k3 => ⟨rfl, fin u k1 k2 k3⟩)
                rcases Nat.lt_or_ge i j with y | y
                · exact y
                · exact absurd (nI_le y (by omega)) z2
            · refine absurd ⟨nI_pos' (by omega), nI_pos' (by omega), ?_⟩ z
              rw [pk_sub (by omega)]
              exact nI_le (by omega) (by omega)
            · refine absurd ⟨nI_pos' (by omega), nI_pos' (by omega), ?_⟩ z
              rw [pk_sub (by omega)]
              exact nI_le (by omega) (by omega)
          · refine go _ ⟨fun _ => ⟨rfl, hI0⟩, fun r1 => ⟨fun _ => ⟨rfl, hI0⟩, fun r2 => ⟨fun _ => ⟨rfl, hI0⟩, fun r3 => ⟨fun _ => ⟨rfl, hI0⟩, fun r4 => ⟨fun r5 => ?_, fun _ => ⟨rfl, hI0⟩⟩⟩⟩⟩⟩
            exact absurd ⟨Int32.not_lt.mp r3, Int32.not_lt.mp r1, r5⟩ hb
          · refine go _ ⟨fun _ => ⟨rfl, hI0⟩, fun r1 => ⟨fun _ => ⟨rfl, hI0⟩, fun r2 => ⟨fun _ => ⟨rfl, hI0⟩, fun r3 => ⟨fun _ => ⟨rfl, hI0⟩, fun r4 => ?_⟩⟩⟩⟩
            exact absurd ⟨Int32.not_lt.mp r2, Int32.not_lt.mp r1, Int32.not_lt.mp r4⟩ hb
    · rcases a9 s hs with ⟨b1, b2⟩ | ⟨⟨p, b1, b2, b3⟩, b4, n, b5, b6, b7, b8⟩
      · exact absurd b1 q
      · rcases a9 o ho with ⟨c1, c2⟩ | ⟨⟨p', c1, c2, c3⟩, c4, n', c5, c6, c7, c8⟩
        · exact absurd c1 q2
        · refine m_isSheet (fun _ => ⟨fun z => absurd z (by decide), fun _ => m_isSheet (fun _ => ⟨fun _ => ⟨ixs, ?_⟩, fun z => absurd z (by decide)⟩) (fun z => absurd (nI_3 ho) z)⟩) (fun z => absurd (nI_3 hs) z)
          rw [k_cl (by omega), k_cl (by omega)]
          refine ⟨fun z => absurd z (by rw [b4]; decide), fun _ => ⟨ixo, fun _ => ⟨ixs, ixo, fun z => ?_, fun _ => ⟨rfl, hI0⟩⟩, fun z => absurd z (by rw [c4]; decide)⟩⟩
          rw [b3, c3] at z
          rw [b2, c2] at q3
          exact absurd z q3
  · subst e
    unfold kSim
    exact m_isSheet (fun _ => ⟨fun z => absurd z (by decide), fun _ => m_isSheet (fun z => absurd z hb) (fun _ => ⟨fun z => absurd rfl z, fun _ => ⟨rfl, hI0⟩⟩)⟩) (fun z => absurd (nI_3 hs) z)
  · unfold kSim
    exact m_isSheet (fun z => absurd z hb) (fun _ => ⟨fun _ => ⟨rfl, hI0⟩, fun z => absurd rfl z⟩)
