/-! the two programs side by side: works, taken -/
def sCome (A : kFn) (a b c : Int32) : kFn × Nat := if ((0 ≤ a ∧ a ≤ 5) ∧ (0 ≤ b ∧ b ≤ 9) ∧ 0 ≤ c ∧ c < 12) ∧ sWorks A < 6 then (sAdd A a b c, 1) else (A, 0)
def sWk (A : kFn) (f : Nat → Int32) : Nat → kFn × Nat
  | 0 => (A, 0)
  | k + 1 => ((sCome (sWk A f k).1 (f (3 * k)) (f (3 * k + 1)) (f (3 * k + 2))).1, (sWk A f k).2 + (sCome (sWk A f k).1 (f (3 * k)) (f (3 * k + 1)) (f (3 * k + 2))).2)
theorem sCome_ok {nt : Nat} {A : kFn} {a b c : Int32} (hO : sOk nt A) : sOk nt (sCome A a b c).1 ∧ sCome (nf A) a b c = (nf (sCome A a b c).1, (sCome A a b c).2) ∧ sWorks A ≤ sWorks (sCome A a b c).1 ∧ (sCome A a b c).1 0 9 = A 0 9 ∧ (sCome A a b c).2 ≤ 1 := by
  by_cases q : ((0 ≤ a ∧ a ≤ 5) ∧ (0 ≤ b ∧ b ≤ 9) ∧ 0 ≤ c ∧ c < 12) ∧ sWorks A < 6
  · have e : sCome A a b c = (sAdd A a b c, 1) := if_pos q
    have e2 : sCome (nf A) a b c = (sAdd (nf A) a b c, 1) := if_pos ⟨q.1, by rw [nf_works]; exact q.2⟩
    rw [e, e2]
    refine ⟨sAdd_ok hO q.2 q.1.1 q.1.2.1 (i_to12 q.1.2.2), by rw [nf_add q.2], ?_, ?_, Nat.le_refl _⟩
    · show sWorks A ≤ sWorks (sAdd A a b c)
      rw [sAdd_works q.2]
      omega
    · show sAdd A a b c 0 9 = A 0 9
      unfold sAdd
      rw [fset_ne (by decide)]
      rfl
  · have e : sCome A a b c = (A, 0) := if_neg q
    have e2 : sCome (nf A) a b c = (nf A, 0) := if_neg (fun z => q ⟨z.1, by rw [nf_works] at z; exact z.2⟩)
    rw [e, e2]
    exact ⟨hO, rfl, Nat.le_refl _, rfl, Nat.zero_le _⟩
theorem sWk_ok {nt : Nat} {A : kFn} {f : Nat → Int32} (hO : sOk nt A) : ∀ k : Nat, sOk nt (sWk A f k).1 ∧ sWk (nf A) f k = (nf (sWk A f k).1, (sWk A f k).2) ∧ sWorks A ≤ sWorks (sWk A f k).1 ∧ (sWk A f k).1 0 9 = A 0 9 ∧ (sWk A f k).2 ≤ k := by
  intro k
  induction k with
  | zero => exact ⟨hO, rfl, Nat.le_refl _, rfl, Nat.le_refl _⟩
  | succ k ih =>
    obtain ⟨i1, i2, i3, i4, i5⟩ := ih
    obtain ⟨c1, c2, c3, c4, c5⟩ := sCome_ok (a := f (3 * k)) (b := f (3 * k + 1)) (c := f (3 * k + 2)) i1
    refine ⟨c1, ?_, Nat.le_trans i3 c3, c4.trans i4, ?_⟩
    · show ((sCome (sWk (nf A) f k).1 (f (3 * k)) (f (3 * k + 1)) (f (3 * k + 2))).1, (sWk (nf A) f k).2 + (sCome (sWk (nf A) f k).1 (f (3 * k)) (f (3 * k + 1)) (f (3 * k + 2))).2) = _
      rw [i2, c2]
      rfl
    · show (sWk A f k).2 + (sCome (sWk A f k).1 (f (3 * k)) (f (3 * k + 1)) (f (3 * k + 2))).2 ≤ k + 1
      omega
theorem x_at {s n i : Nat} {σ : kS} {Q : Int32 → kS → Prop} (hs : s < 4) (hn : n ≤ 40) (e : σ.1 40 s = nI n) (hi : i < n) (h : Q (σ.1 (35 + s) i) σ) : wX2_at (nI s) (nI i) σ Q := by
  refine x_hasItem hs hn e (fun i2 h2 e2 => ⟨fun z => absurd z (by decide), fun _ => ⟨k_idx hs (by decide), k_idx (by omega) (by decide), ?_⟩⟩) (fun z => absurd ⟨nI_pos' (by omega), nI_lt hi (by omega)⟩ z)
  rw [k_cl (by omega), k_cl (by omega)]
  exact h
theorem x_comes {nt s n i : Nat} {σ : kS} {Q : Int32 → kS → Prop} (hO : sOk nt (fx 3 σ)) (hs : s < 4) (hn : n ≤ 40) (e : σ.1 40 s = nI n) (hi : i + 3 ≤ n) (h : ∀ s' : kS, fx 3 s' = (sCome (fx 3 σ) (σ.1 (35 + s) i) (σ.1 (35 + s) (i + 1)) (σ.1 (35 + s) (i + 2))).1 → xO 3 σ s' → Q (nI (sCome (fx 3 σ) (σ.1 (35 + s) i) (σ.1 (35 + s) (i + 1)) (σ.1 (35 + s) (i + 2))).2) s') : wX4_comes (nI s) (nI i) σ Q := by
  have e11 : σ.1 3 11 = nI (sWorks (fx 3 σ)) := hO.works.2
  have h6 := hO.works.1
  unfold wX4_comes
  rw [show nI i + (1 : Int32) = nI (i + 1) from nI_add i 1, show nI i + (2 : Int32) = nI (i + 2) from nI_add i 2]
  refine x_at hs hn e (by omega) (x_at hs hn e (by omega) (x_at hs hn e (by omega) (x_isWork (fun hw => ⟨fun z => absurd z (by decide), fun _ => ⟨fun q => ?_, fun q => ?_⟩⟩) (fun hw => ⟨fun _ => ?_, fun z => absurd rfl z⟩))))
  · have hlt : sWorks (fx 3 σ) < 6 := by
      rw [e11] at q
      exact (nI_ltI (b := 6) (by omega) (by decide)).mp q
    have ec : sCome (fx 3 σ) (σ.1 (35 + s) i) (σ.1 (35 + s) (i + 1)) (σ.1 (35 + s) (i + 2)) = (sAdd (fx 3 σ) (σ.1 (35 + s) i) (σ.1 (35 + s) (i + 1)) (σ.1 (35 + s) (i + 2)), 1) := if_pos ⟨hw, hlt⟩
    rw [ec] at h
    exact x_add hO hlt (fun s1 f1 o1 => h s1 f1 o1)
  · have hge : ¬ sWorks (fx 3 σ) < 6 := fun z => q (by rw [e11]; exact nI_lt (b := 6) z (by decide))
    have ec : sCome (fx 3 σ) (σ.1 (35 + s) i) (σ.1 (35 + s) (i + 1)) (σ.1 (35 + s) (i + 2)) = (fx 3 σ, 0) := if_neg (fun z => hge z.2)
    rw [ec] at h
    exact h σ rfl xO.rf
  · have ec : sCome (fx 3 σ) (σ.1 (35 + s) i) (σ.1 (35 + s) (i + 1)) (σ.1 (35 + s) (i + 2)) = (fx 3 σ, 0) := if_neg (fun z => hw z.1)
    rw [ec] at h
    exact h σ rfl xO.rf
theorem x_worksL {nt s n m : Nat} {l3 : Int32} {f : Nat → Int32} {σ : kS} {Q : Int32 → kS → Prop} (hO : sOk nt (fx 3 σ)) (hs : s < 4) (hn : n ≤ 40) (hm : m ≤ 6) (e : σ.1 40 s = nI n) (hf : ∀ a i : Nat, l3 = nI a → a + i < n → σ.1 (35 + s) (a + i) = f i)
    (h1 : (∀ k : Nat, k < m → ∃ a : Nat, l3 = nI a ∧ a + (3 * k + 3) ≤ n) → ∀ u : kS, fx 3 u = (sWk (fx 3 σ) f m).1 → xO 3 σ u → Q (nI (sWk (fx 3 σ) f m).2) u)
    (h0 : ∀ k : Nat, k < m → (∀ j : Nat, j < k → ∃ a : Nat, l3 = nI a ∧ a + (3 * j + 3) ≤ n) → ¬ (0 ≤ l3 ∧ l3 ≤ nI n - nI (3 * k + 3)) → ∀ u : kS, fx 3 u = (sWk (fx 3 σ) f k).1 → xO 3 σ u → Q (-12) u) : wX4_works_70 Q (nI s) l3 (nI m) (0 : Int32) (0 : Int32) σ := by
  intro P hP
  suffices key : ∀ r k : Nat, k + r = m → (∀ j : Nat, j < k → ∃ a : Nat, l3 = nI a ∧ a + (3 * j + 3) ≤ n) → ∀ u : kS, fx 3 u = (sWk (fx 3 σ) f k).1 → xO 3 σ u → P u (nI (sWk (fx 3 σ) f k).2) (nI k) from key m 0 (by omega) (fun j hj => absurd hj (by omega)) σ rfl xO.rf
  intro r
  induction r with
  | zero =>
    intro k hk hj u fu ou
    have ek : k = m := by omega
    subst ek
    exact hP _ _ _ ⟨fun _ => h1 hj u fu ou, fun q => absurd (Int32.le_refl _) q⟩
  | succ r ih =>
    intro k hk hj u fu ou
    have u40 : u.1 40 s = nI n := by rw [ou.1 40 (by decide)]; exact e
    have u35 : u.1 (35 + s) = σ.1 (35 + s) := ou.1 _ (by omega)
    have ix : ((3 : Int32) * nI k) + (3 : Int32) = nI (3 * k + 3) := by rw [n_3]; exact nI_add _ 3
    have oku : sOk nt (fx 3 u) := by rw [fu]; exact (sWk_ok hO k).1
    refine hP _ _ _ ⟨fun q => absurd q (nI_ge (by omega) (by omega)), fun _ => ?_⟩
    rw [ix]
    refine x_hasItems hs hn u40 (fun a b hab ea eb => ⟨fun _ => ?_, fun z => absurd z (by decide)⟩) (fun hb => ⟨fun z => absurd rfl z, fun _ => h0 k (by omega) hj (fun z => hb ⟨z.1, nI_pos' (by omega), z.2⟩) u fu ou⟩)
    have eb2 : b = 3 * k + 3 := ((nI_eq (by omega) (by omega)).mp eb).symm
    subst eb2
    subst ea
    have jx : nI a + ((3 : Int32) * nI k) = nI (a + 3 * k) := by rw [n_3, nI_add]
    rw [jx]
    have nx := fun v hv ov => ih (k + 1) (by omega) (fun j hj2 => by
      by_cases q : j = k
      · subst q
        exact ⟨a, rfl, hab⟩
      · exact hj j (by omega)) v hv ov
    refine x_comes oku hs hn u40 (by omega) (fun v fv ov => ?_)
    rw [u35, show a + 3 * k + 1 = a + (3 * k + 1) by omega, show a + 3 * k + 2 = a + (3 * k + 2) by omega, hf a (3 * k) rfl (by omega), hf a (3 * k + 1) rfl (by omega), hf a (3 * k + 2) rfl (by omega), fu] at fv ⊢
    have nx2 := nx v fv (ou.tr ov)
    have c5 := (sCome_ok (a := f (3 * k)) (b := f (3 * k + 1)) (c := f (3 * k + 2)) (sWk_ok (f := f) hO k).1).2.2.2.2
    have e2 : (sWk (fx 3 σ) f (k + 1)).2 = (sWk (fx 3 σ) f k).2 + (sCome (sWk (fx 3 σ) f k).1 (f (3 * k)) (f (3 * k + 1)) (f (3 * k + 2))).2 := rfl
    rw [e2] at nx2
    rcases (by omega : (sCome (sWk (fx 3 σ) f k).1 (f (3 * k)) (f (3 * k + 1)) (f (3 * k + 2))).2 = 0 ∨ (sCome (sWk (fx 3 σ) f k).1 (f (3 * k)) (f (3 * k + 1)) (f (3 * k + 2))).2 = 1) with c | c
    · rw [c] at nx2 ⊢
      refine ⟨fun _ x ex => ?_, fun z => absurd rfl z⟩
      rw [ex, k_n1]
      exact nx2
    · rw [c] at nx2 ⊢
      refine ⟨fun z => absurd z (by decide), fun _ x ex y ey => ?_⟩
      rw [ex, ey, k_n1, k_n1]
      exact nx2
theorem m_worksL {nt s n m : Nat} {l3 : Int32} {f : Nat → Int32} {A : kFn} {σ : kS} {Q : Int32 → kS → Prop} (hO : sOk nt A) (hR : mR A σ) (hs : s < 4) (hn : n ≤ 40) (hm : m ≤ 6) (e : σ.1 14 s = nI n) (hf : ∀ a i : Nat, l3 = nI a → a + i < n → σ.1 15 (40 * s + (a + i)) = f i)
    (h1 : (∀ k : Nat, k < m → ∃ a : Nat, l3 = nI a ∧ a + (3 * k + 3) ≤ n) → ∀ u : kS, mR (sWk A f m).1 u → mN σ u → (∀ j : Nat, j < sWorks A → u.1 5 j = σ.1 5 j) → Q (nI (sWk A f m).2) u)
    (h0 : ∀ k : Nat, k < m → (∀ j : Nat, j < k → ∃ a : Nat, l3 = nI a ∧ a + (3 * j + 3) ≤ n) → ¬ (0 ≤ l3 ∧ l3 ≤ nI n - nI (3 * k + 3)) → ∀ u : kS, mR (sWk A f k).1 u → mN σ u → (∀ j : Nat, j < sWorks A → u.1 5 j = σ.1 5 j) → Q (-12) u) : wX5_works_75 Q (nI s) l3 (nI m) (0 : Int32) (0 : Int32) σ := by
  intro P hP
  suffices key : ∀ r k : Nat, k + r = m → (∀ j : Nat, j < k → ∃ a : Nat, l3 = nI a ∧ a + (3 * j + 3) ≤ n) → ∀ u : kS, mR (sWk A f k).1 u → mN σ u → (∀ j : Nat, j < sWorks A → u.1 5 j = σ.1 5 j) → P u (nI (sWk A f k).2) (nI k) from key m 0 (by omega) (fun j hj => absurd hj (by omega)) σ hR ⟨fun _ _ _ _ _ => rfl, fun _ _ _ _ _ _ _ => rfl⟩ (fun _ _ => rfl)
  intro r
  induction r with
  | zero =>
    intro k hk hj u ru nu wu
    have ek : k = m := by omega
    subst ek
    exact hP _ _ _ ⟨fun _ => h1 hj u ru nu wu, fun q => absurd (Int32.le_refl _) q⟩
  | succ r ih =>
    intro k hk hj u ru nu wu
    have oku := (sWk_ok (f := f) hO k)
    have u14 : u.1 14 s = nI n := by rw [nu.1 14 (by decide) (by decide) (by decide) (by decide)]; exact e
    have u15 : u.1 15 = σ.1 15 := nu.1 15 (by decide) (by decide) (by decide) (by decide)
    have sz : (nI n - ((3 : Int32) * nI k)) - (3 : Int32) = nI n - nI (3 * k + 3) := by
      have : nI (3 * k + 3) = ((3 : Int32) * nI k) + (3 : Int32) := by rw [n_3]; exact (nI_add _ 3).symm
      rw [this]
      generalize (3 : Int32) * nI k = z
      generalize nI n = y
      grind
    refine hP _ _ _ ⟨fun q => absurd q (nI_ge (by omega) (by omega)), fun _ => ⟨fun q => h0 k (by omega) hj (fun z => Int32.not_le.mpr q z.1) u ru nu wu, fun q => ⟨k_idx hs (by decide), ?_⟩⟩⟩
    rw [k_cl (by omega), u14, sz]
    refine ⟨fun q2 => ?_, fun q2 => h0 k (by omega) hj (fun z => q2 z.2) u ru nu wu⟩
    obtain ⟨a, ha, ea⟩ := nI_of (x := l3) q
    subst ea
    have hab : a + (3 * k + 3) ≤ n := by
      rcases Nat.lt_or_ge n (3 * k + 3) with z | z
      · refine absurd (Int32.lt_of_le_of_lt q2 ?_) (Int32.not_lt.mpr (nI_pos' ha))
        rw [i_lt, i_sub (by rw [nI_toInt (by omega), nI_toInt (by omega)]; omega), nI_toInt (by omega), nI_toInt (by omega)]
        show (n : Int) - ((3 * k + 3 : Nat) : Int) < 0
        omega
      · rw [pk_sub z] at q2
        have := (nI_leI ha (by omega)).mp q2
        omega
    intro x13 e13
    have ix : x13 = nI (40 * s + (a + 3 * k)) := by rw [e13, n_40, n_3, nI_add, show 40 * s + a + 3 * k = 40 * s + (a + 3 * k) by omega]
    subst ix
    rw [show nI (40 * s + (a + 3 * k)) + (1 : Int32) = nI (40 * s + (a + 3 * k) + 1) from nI_add _ 1, show nI (40 * s + (a + 3 * k)) + (2 : Int32) = nI (40 * s + (a + 3 * k) + 2) from nI_add _ 2]
    refine ⟨k_idx (by omega) (by decide), k_idx (by omega) (by decide), k_idx (by omega) (by decide), ?_⟩
    rw [k_cl (by omega), k_cl (by omega), k_cl (by omega), u15, show 40 * s + (a + 3 * k) + 1 = 40 * s + (a + (3 * k + 1)) by omega, show 40 * s + (a + 3 * k) + 2 = 40 * s + (a + (3 * k + 2)) by omega, hf a (3 * k) rfl (by omega), hf a (3 * k + 1) rfl (by omega), hf a (3 * k + 2) rfl (by omega)]
    have nx := ih (k + 1) (by omega) (fun j hj2 => by
      by_cases q : j = k
      · subst q
        exact ⟨a, rfl, hab⟩
      · exact hj j (by omega))
    have e1 : sWk A f (k + 1) = ((sCome (sWk A f k).1 (f (3 * k)) (f (3 * k + 1)) (f (3 * k + 2))).1, (sWk A f k).2 + (sCome (sWk A f k).1 (f (3 * k)) (f (3 * k + 1)) (f (3 * k + 2))).2) := rfl
    have zero : ¬ (((0 ≤ f (3 * k) ∧ f (3 * k) ≤ 5) ∧ (0 ≤ f (3 * k + 1) ∧ f (3 * k + 1) ≤ 9) ∧ 0 ≤ f (3 * k + 2) ∧ f (3 * k + 2) < 12) ∧ sWorks (sWk A f k).1 < 6) → ∀ v : Int32, v < 0 → (v < 0 → ∀ x17 : Int32, x17 = nI (sWk A f k).2 + (0 : Int32) → ∀ x18 : Int32, x18 = nI k + (1 : Int32) → P u x17 x18) ∧ (¬ v < 0 → ∀ x19 : Int32, x19 = nI (sWk A f k).2 + (1 : Int32) → ∀ x20 : Int32, x20 = nI k + (1 : Int32) → P u x19 x20) := by
      intro hz v hv
      refine ⟨fun _ x ex y ey => ?_, fun z => absurd hv z⟩
      have ec : sCome (sWk A f k).1 (f (3 * k)) (f (3 * k + 1)) (f (3 * k + 2)) = ((sWk A f k).1, 0) := if_neg hz
      rw [e1, ec] at nx
      rw [ex, ey, k_n1, Int32.add_zero]
      exact nx u ru nu wu
    refine m_work oku.1 ru (fun hw => zero (fun z => hw z.1) _ (by decide)) (fun _ hw => zero (fun z => hw z.2) _ (by decide)) (fun hw hlt v rv cv => ⟨fun z => absurd z (k_nn (by omega)), fun _ x ex y ey => ?_⟩)
    have ec : sCome (sWk A f k).1 (f (3 * k)) (f (3 * k + 1)) (f (3 * k + 2)) = (sAdd (sWk A f k).1 (f (3 * k)) (f (3 * k + 1)) (f (3 * k + 2)), 1) := if_pos ⟨hw, hlt⟩
    rw [e1, ec] at nx
    rw [ex, ey, k_n1, k_n1]
    refine nx v rv ⟨fun p p0 p4 p5 p6 => (cv.n.1 p p0 p4 p5 p6).trans (nu.1 p p0 p4 p5 p6), fun x h4 h7 h8 h9 h13 hx => (cv.n.2 x h4 h7 h8 h9 h13 hx).trans (nu.2 x h4 h7 h8 h9 h13 hx)⟩ (fun j hj2 => ?_)
    rw [cv.2.2.1 j (by have := oku.2.2.1; omega)]
    exact wu j hj2
theorem s_works {tx : List kTxt} {σx σm : kS} {l1 l2 l3 l4 : Int32} (hI : kInv tx σx σm) : wX4_works l1 l2 l3 l4 σx (kSim tx σm (wX5_works l1 l2 l3 l4 σm)) := by
  have hI0 := hI
  obtain ⟨a1, a2, a3, a4, a5, a6, a7, a8, a9⟩ := hI
  have hO := nf_ok.mpr a4
  have bad : ¬ ((0 ≤ l1 ∧ l1 ≤ 3) ∧ (0 ≤ l2 ∧ l2 ≤ 2) ∧ 0 ≤ l4 ∧ l4 ≤ 6) → kSim tx σm (wX5_works l1 l2 l3 l4 σm) (-2 : Int32) σx := by
    intro hb
    unfold kSim
    refine m_isSheet (fun q1 => ⟨fun z => absurd z (by decide), fun _ => ?_⟩) (fun _ => ⟨fun _ => ⟨rfl, hI0⟩, fun z => absurd rfl z⟩)
    refine m_in32 (lo := 0) (hi := 2) (by decide) (by decide) (fun q2 => ⟨fun z => absurd z (by decide), fun _ => ?_⟩) (fun _ => ⟨fun _ => ⟨rfl, hI0⟩, fun z => absurd rfl z⟩)
    exact m_in32 (lo := 0) (hi := 6) (by decide) (by decide) (fun q3 => absurd ⟨q1, q2, q3⟩ hb) (fun _ => ⟨fun z => absurd rfl z, fun _ => ⟨rfl, hI0⟩⟩)
  refine x_hasS (fun s hs e => ⟨fun z => absurd z (by decide), fun _ => ⟨fun q => bad (fun z => Int32.not_le.mpr q z.2.1.1), fun q1 => ⟨fun q => bad (fun z => absurd (Int32.le_trans q z.2.1.2) (by decide)), fun q2 => ⟨fun q => bad (fun z => Int32.not_le.mpr q z.2.2.1), fun q3 => ⟨fun q4 => ?_, fun q => bad (fun z => q z.2.2.2)⟩⟩⟩⟩⟩) (fun hb => ⟨fun _ => bad (fun z => hb z.1), fun z => absurd rfl z⟩)
  subst e
  obtain ⟨m, hm, em⟩ := nI_of2 (x := l4) (M := 6) (n := 6) (by decide) q3 q4
  subst em
  have go : ∀ R : Int32 → kS → Prop, ((σm.1 12 s = 0 → wX5_works_57 R (nI s) l3 (nI m) σm) ∧ (¬ σm.1 12 s = 0 → ((σm.1 13 s) = l2 → wX5_works_57 R (nI s) l3 (nI m) σm) ∧ (¬ (σm.1 13 s) = l2 → R (-13 : Int32) σm))) → wX5_works (nI s) l2 l3 (nI m) σm R := by
    intro R hr
    refine m_isSheet (fun _ => ⟨fun z => absurd z (by decide), fun _ => ?_⟩) (fun z => absurd (nI_3 hs) z)
    refine m_in32 (lo := 0) (hi := 2) (by decide) (by decide) (fun _ => ⟨fun z => absurd z (by decide), fun _ => ?_⟩) (fun z => absurd ⟨Int32.not_lt.mp q1, by grind⟩ z)
    refine m_in32 (lo := 0) (hi := 6) (by decide) (by decide) (fun _ => ⟨fun _ => ⟨k_idx hs (by decide), ?_⟩, fun z => absurd z (by decide)⟩) (fun z => absurd ⟨Int32.not_lt.mp q3, q4⟩ z)
    rw [k_cl (by omega)]
    exact ⟨hr.1, fun y => ⟨k_idx hs (by decide), hr.2 y⟩⟩
  unfold kSim
  refine x_missing hs (fun q => ⟨fun z => absurd z (by decide), fun _ => ?_⟩) (fun q => ⟨fun _ => x_sort hs ⟨fun q5 => ?_, fun q5 => ?_⟩, fun z => absurd rfl z⟩)
  · rcases a9 s hs with ⟨b1, b2⟩ | ⟨⟨p, b1, b2, b3⟩, b4, n, b5, b6, b7, b8⟩
    · refine go _ ⟨fun _ => ⟨k_idx hs (by decide), ?_⟩, fun z => absurd b2 z⟩
      rw [k_cl (by omega)]
      exact ⟨fun z => absurd b2 z, fun _ => ⟨rfl, hI0⟩⟩
    · rw [b2] at q
      exact absurd q (nI_nm1 (by omega))
  · rcases a9 s hs with ⟨b1, b2⟩ | ⟨⟨p, b1, b2, b3⟩, b4, n, b5, b6, b7, b8⟩
    · exact absurd b1 q
    · have there : ¬ σm.1 12 s = 0 := by rw [b4]; decide
      have run : ∀ R : Int32 → kS → Prop, wX5_works_75 R (nI s) l3 (nI m) (0 : Int32) (0 : Int32) σm → wX5_works (nI s) l2 l3 (nI m) σm R := by
        intro R hr
        refine go _ ⟨fun z => absurd z there, fun _ => ⟨fun _ => ⟨k_idx hs (by decide), ?_⟩, fun z => absurd (by rw [b3, ← q5, b2]) z⟩⟩
        rw [k_cl (by omega)]
        exact ⟨fun _ => hr, fun z => absurd z there⟩
      have back : ∀ (k : Nat) (f : Nat → Int32) (u v : kS), fx 3 u = (sWk (fx 3 σx) f k).1 → xO 3 σx u → mR (sWk (nf (fx 3 σx)) f k).1 v → mN σm v → (∀ j : Nat, j < sWorks (nf (fx 3 σx)) → v.1 5 j = σm.1 5 j) → kInv tx u v := by
        intro k f u v fu ou rv nv wv
        obtain ⟨k1, k2, k3, k4, k5⟩ := sWk_ok (f := f) a4 k
        rw [k2, ← fu] at rv
        refine hI0.now ou nv (fun w hw => wv w (by rw [nf_works]; exact hw)) ?_ rv ?_ ?_
        · rw [fu]; exact k1
        · unfold kYear
          rw [fu, k4]
          exact a6
        · rw [fu]; exact k3
      by_cases hl : l3 < 0
      · refine x_worksL (f := fun _ => 0) a4 hs b5 hm b6 (fun a i ea _ => ?_) (fun hk u fu ou => run _ (m_worksL (f := fun _ => 0) hO a5 hs b5 hm b7 (fun a i ea _ => ?_) (fun hk2 v rv nv wv => ⟨?_, back m _ u v fu ou rv nv wv⟩) (fun k hk2 hj hno v rv nv wv => ?_))) (fun k hk hj hno u fu ou => run _ (m_worksL (f := fun _ => 0) hO a5 hs b5 hm b7 (fun a i ea _ => ?_) (fun hk2 v rv nv wv => ?_) (fun k2 hk2 hj2 hno2 v rv nv wv => ?_)))
        · rw [ea] at hl
          by_cases ha : a < 2 ^ 31
          · exact absurd hl (nI_pos ha)
          · omega
        · rw [ea] at hl
          by_cases ha : a < 2 ^ 31
          · exact absurd hl (nI_pos ha)
          · omega
        · rw [(sWk_ok a4 m).2.1]
        · obtain ⟨a, ea, ha⟩ := hk k hk2
          rw [ea] at hl
          exact absurd hl (k_nn (by omega))
        · rw [ea] at hl
          by_cases ha : a < 2 ^ 31
          · exact absurd hl (nI_pos ha)
          · omega
        · obtain ⟨a, ea, ha⟩ := hk2 k hk
          rw [ea] at hl
          exact absurd hl (k_nn (by omega))
        · have k0 : k = 0 := by
            rcases Nat.eq_zero_or_pos k with z | z
            · exact z
            · obtain ⟨a, ea, ha⟩ := hj 0 z
              rw [ea] at hl
              exact absurd hl (k_nn (by omega))
          have k20 : k2 = 0 := by
            rcases Nat.eq_zero_or_pos k2 with z | z
            · exact z
            · obtain ⟨a, ea, ha⟩ := hj2 0 z
              rw [ea] at hl
              exact absurd hl (k_nn (by omega))
          subst k0
          subst k20
          exact ⟨rfl, back 0 _ u v fu ou rv nv wv⟩
      · obtain ⟨a, ha, ea⟩ := nI_of (x := l3) hl
        subst ea
        have out : ∀ k : Nat, k < 7 → ¬ (0 ≤ nI a ∧ nI a ≤ nI n - nI (3 * k + 3)) → ¬ a + (3 * k + 3) ≤ n := by
          intro k hk hno z
          refine hno ⟨nI_pos' ha, ?_⟩
          rw [pk_sub (by omega)]
          exact nI_le (by omega) (by omega)
        have inn : ∀ k : Nat, (∃ a' : Nat, nI a = nI a' ∧ a' + (3 * k + 3) ≤ n) → a + (3 * k + 3) ≤ n := by
          rintro k ⟨a', e1, e2⟩
          have := (nI_eq ha (by omega)).mp e1
          omega
        refine x_worksL (f := fun i => σx.1 (35 + s) (a + i)) a4 hs b5 hm b6 (fun a' i ea h => ?_) (fun hk u fu ou => run _ (m_worksL (f := fun i => σx.1 (35 + s) (a + i)) hO a5 hs b5 hm b7 (fun a' i ea h => ?_) (fun hk2 v rv nv wv => ⟨?_, back m _ u v fu ou rv nv wv⟩) (fun k hk2 hj hno v rv nv wv => ?_))) (fun k hk hj hno u fu ou => run _ (m_worksL (f := fun i => σx.1 (35 + s) (a + i)) hO a5 hs b5 hm b7 (fun a' i ea h => ?_) (fun hk2 v rv nv wv => ?_) (fun k2 hk2 hj2 hno2 v rv nv wv => ?_)))
        · have := (nI_eq ha (by omega)).mp ea
          rw [this]
        · have := (nI_eq ha (by omega)).mp ea
          rw [this, b8 _ h]
        · rw [(sWk_ok a4 m).2.1]
        · exact absurd (inn k (hk k hk2)) (out k (by omega) hno)
        · have := (nI_eq ha (by omega)).mp ea
          rw [this, b8 _ h]
        · exact absurd (inn k (hk2 k hk)) (out k (by omega) hno)
        · have e1 := out k (by omega) hno
          have e2 := out k2 (by omega) hno2
          have ek : k2 = k := by
            rcases Nat.lt_trichotomy k2 k with z | z | z
            · exact absurd (inn k2 (hj k2 z)) e2
            · exact z
            · exact absurd (inn k (hj2 k z)) e1
          subst ek
          exact ⟨rfl, back _ _ u v fu ou rv nv wv⟩
  · rcases a9 s hs with ⟨b1, b2⟩ | ⟨⟨p, b1, b2, b3⟩, b4, n, b5, b6, b7, b8⟩
    · exact absurd b1 q
    · have there : ¬ σm.1 12 s = 0 := by rw [b4]; decide
      refine go _ ⟨fun z => absurd z there, fun _ => ⟨fun z => ?_, fun _ => ⟨rfl, hI0⟩⟩⟩
      rw [b3] at z
      rw [b2] at q5
      exact absurd z q5
