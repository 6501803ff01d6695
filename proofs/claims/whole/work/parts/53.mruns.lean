/-! pure: years in thought, of the reference -/
/-- the texts that the reference keeps -/
def mE (W : Nat → Nat → (Nat → Int32) → Int32) (nt : Nat) (σ : kS) : Prop := nt ≤ 6 ∧ ∀ t : Nat, t < nt → mTx (σ.1 1) (σ.1 2) t (W t)
/-- what thought may change -/
def mU (σ σ' : kS) : Prop := (∀ p : Nat, p ≠ 0 → p ≠ 4 → p ≠ 7 → p ≠ 8 → p ≠ 9 → σ'.1 p = σ.1 p) ∧ (∀ k : Nat, k ≠ 32 → k ≠ 33 → (k < 14 ∨ 28 < k) → σ'.1 0 k = σ.1 0 k) ∧ ∀ j : Nat, j < 36 → σ'.1 4 j = σ.1 4 j
def mP (σ σ' : kS) : Prop := (∀ p : Nat, p ≠ 0 → p ≠ 4 → p ≠ 9 → σ'.1 p = σ.1 p) ∧ ∀ k : Nat, k ≠ 8 → k ≠ 9 → (k < 14 ∨ 28 < k) → σ'.1 0 k = σ.1 0 k
theorem mP.rf {σ : kS} : mP σ σ := ⟨fun _ _ _ _ => rfl, fun _ _ _ _ => rfl⟩
theorem mP.tr {σ σ' σ'' : kS} (h : mP σ σ') (h' : mP σ' σ'') : mP σ σ'' := ⟨fun p h1 h2 h3 => (h'.1 p h1 h2 h3).trans (h.1 p h1 h2 h3), fun k h1 h2 h3 => (h'.2 k h1 h2 h3).trans (h.2 k h1 h2 h3)⟩
theorem mO.p {σ σ' : kS} (h : mO σ σ') : mP σ σ' := ⟨fun p h1 h2 _ => h.1 p h1 h2, h.2⟩
theorem mU.rf {σ : kS} : mU σ σ := ⟨fun _ _ _ _ _ _ => rfl, fun _ _ _ _ => rfl, fun _ _ => rfl⟩
theorem mU.tr {σ σ' σ'' : kS} (h : mU σ σ') (h' : mU σ' σ'') : mU σ σ'' := ⟨fun p h1 h2 h3 h4 h5 => (h'.1 p h1 h2 h3 h4 h5).trans (h.1 p h1 h2 h3 h4 h5), fun k h1 h2 h3 => (h'.2.1 k h1 h2 h3).trans (h.2.1 k h1 h2 h3), fun j hj => (h'.2.2 j hj).trans (h.2.2 j hj)⟩
theorem mE.p {W : Nat → Nat → (Nat → Int32) → Int32} {nt : Nat} {σ σ' : kS} (h : mE W nt σ) (ho : mP σ σ') : mE W nt σ' := by
  refine ⟨h.1, fun t ht => ?_⟩
  rw [ho.1 1 (by decide) (by decide) (by decide), ho.1 2 (by decide) (by decide) (by decide)]
  exact h.2 t ht
theorem mE.u {W : Nat → Nat → (Nat → Int32) → Int32} {nt : Nat} {σ σ' : kS} (h : mE W nt σ) (ho : mU σ σ') : mE W nt σ' := by
  refine ⟨h.1, fun t ht => ?_⟩
  rw [ho.1 1 (by decide) (by decide) (by decide) (by decide) (by decide), ho.1 2 (by decide) (by decide) (by decide) (by decide) (by decide)]
  exact h.2 t ht
theorem mU_R {A : kFn} {σ σ' : kS} (h : mU σ σ') (hR : mR A σ) : mR A σ' := by
  obtain ⟨a, ⟨b1, b2, b3, b4, b5⟩, c⟩ := hR
  refine ⟨fun x hx => ?_, ⟨?_, ?_, ?_, ?_, ?_⟩, fun w hw => ?_⟩
  · rw [h.2.2 _ (by omega), h.2.2 _ (by omega), h.2.2 _ (by omega)]
    exact a x hx
  · rw [h.2.1 7 (by decide) (by decide) (by decide)]; exact b1
  · rw [h.2.1 8 (by decide) (by decide) (by decide)]; exact b2
  · rw [h.2.1 9 (by decide) (by decide) (by decide)]; exact b3
  · rw [h.2.1 13 (by decide) (by decide) (by decide)]; exact b4
  · rw [h.2.1 4 (by decide) (by decide) (by decide)]; exact b5
  · rw [h.1 5 (by decide) (by decide) (by decide) (by decide) (by decide), h.1 6 (by decide) (by decide) (by decide) (by decide) (by decide)]
    exact c w hw
theorem m_live {nt : Nat} {W : Nat → Nat → (Nat → Int32) → Int32} {A : kFn} {σ : kS} {Q : kS → Prop} (hE : mE W nt σ) (hO : sOk nt A) (hR : mR A σ) (h : ∀ σ' : kS, mR (sLive W A) σ' → mO σ σ' → Q σ') : wX5_lives σ Q := by
  obtain ⟨t, h1, h2⟩ := hO.2.2.2.1
  have h3 := hE.1
  refine m_lives hO hR (hE.2 t h1) h2 (fun σ' r o => h σ' ?_ o)
  unfold sLive
  rw [h2, k_cl (by omega)]
  exact r
theorem sPourN_ok {nt : Nat} {m : Int32} {A : kFn} (hm : 0 ≤ m ∧ m ≤ 9) (hO : sOk nt A) : ∀ n : Nat, n ≤ 12 → sOk nt (kfor n (fun c B => sPour B c m) A) := by
  intro n
  induction n with
  | zero => exact fun _ => hO
  | succ n ih =>
    intro hn
    have h1 := ih (by omega)
    refine sPour_ok h1 (by omega) ?_
    have hw := (h1.1 n (by omega)).2.2
    generalize (kfor n (fun c B => sPour B c m) A) 3 n = w at hw ⊢
    grind
/-- one year in thought -/
theorem m_step {nt i n : Nat} {W : Nat → Nat → (Nat → Int32) → Int32} {d : Bool} {seed l2 l4 l5 x11 : Int32} {B : kFn} {s : kS} {Q : kS → Prop} {P48 : kS → Int32 → Int32 → Prop} (hi : i < 30) (hd : l2 = if d = true then 1 else 0) (hx : x11 = sZ seed (i + 1)) (hE : mE W nt s) (hO : sOk nt B) (hR : mR B s) (h : ∀ s' : kS, mR (sStep W d seed i B) s' → mP s s' → (∀ j : Nat, j ≠ i → s'.1 9 j = s.1 9 j) → s'.1 9 i = sDry (sStep W d seed i B) → P48 s' x11 (nI (i + 1))) : wX5_runs_69 Q P48 (nI n) l2 l4 l5 x11 (nI i) 0 s := by
  have tail : ∀ C : kFn, sLive W C = sStep W d seed i B → sOk nt C → ∀ s1 : kS, mR C s1 → mO s s1 → wX5_runs_100 Q P48 (nI n) l2 l4 l5 x11 (nI i) s1 := by
    intro C hC okC s1 r1 o1
    refine m_live (hE.p o1.p) okC r1 (fun s2 r2 o2 => m_drySet r2 ⟨k_idx (by omega) (by decide), fun s3 e3 x ex => ?_⟩)
    rw [ex, k_n1]
    rw [k_cl (by omega)] at e3
    rw [hC] at r2 e3
    refine h s3 ?_ ((o1.tr o2).p.tr ?_) (fun j hj => ?_) ?_
    · rw [e3]
      obtain ⟨a, b, c⟩ := r2
      refine ⟨fun x hx => ?_, ?_, fun w hw => ?_⟩
      · rw [kset_off (by decide)]
        exact a x hx
      · rw [kset_off (by decide)]
        exact b
      · rw [kset_off (by decide), kset_off (by decide)]
        exact c w hw
    · rw [e3]
      exact ⟨fun p _ _ h9 => kset_off h9, fun k _ _ _ => by rw [kset_off (by decide)]⟩
    · rw [e3, kset_ne hj, (o1.tr o2).1 9 (by decide) (by decide)]
    · rw [e3, kset_at]
  intro P hP
  cases d with
  | false =>
    refine hP _ _ ⟨fun q => absurd q (by decide), fun _ => ⟨fun _ => tail B ?_ hO s hR mO.rf, fun q => absurd hd q⟩⟩
    unfold sStep
    rw [if_neg (by decide)]
  | true =>
    have hd : l2 = 1 := hd
    suffices key : ∀ k c : Nat, c + k = 12 → ∀ s1 : kS, mR (kfor c (fun c B => sPour B c (sWet (sZ seed (i + 1)))) B) s1 → mO s s1 → P s1 (nI c) from key 12 0 rfl s hR mO.rf
    intro k
    induction k with
    | zero =>
      intro c hc s1 r1 o1
      have e : c = 12 := by omega
      subst e
      refine hP _ _ ⟨fun _ => tail (sPourAll (sWet (sZ seed (i + 1))) B) ?_ (sPourAll_ok sWet_in hO).1 s1 r1 o1, fun q => absurd (k_at rfl) q⟩
      unfold sStep
      rw [if_pos rfl]
    | succ k ih =>
      intro c hc s1 r1 o1
      have okc := sPourN_ok (m := sWet (sZ seed (i + 1))) sWet_in hO c (by omega)
      refine hP _ _ ⟨fun q => absurd q (k_ge (N := 12) (by omega) (by decide) rfl), fun _ => ⟨fun q => absurd q (by rw [hd]; decide), fun _ => ?_⟩⟩
      rw [hx]
      refine m_adds (m := sWet (sZ seed (i + 1))) r1 (by omega) ?_ (fun s2 r2 o2 x ex => ?_)
      · have hw := (okc.1 c (by omega)).2.2
        have hm := sWet_in (z := sZ seed (i + 1))
        generalize sWet (sZ seed (i + 1)) = m at hm hw ⊢
        generalize (kfor c (fun c B => sPour B c m) B) 3 c = w at hw ⊢
        grind
      · rw [ex, k_n1]
        exact ih (c + 1) (by omega) s2 r2 (o1.tr o2)
