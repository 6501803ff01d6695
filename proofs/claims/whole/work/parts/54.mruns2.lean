/-! pure: years in thought, of the reference: whole runs -/
/-- row 8 keeps heights, peats and waters of a fen -/
def mLast (B : kFn) (σ : kS) : Prop := ∀ c : Nat, c < 12 → σ.1 8 (3 * c) = B 1 c ∧ σ.1 8 (3 * c + 1) = B 2 c ∧ σ.1 8 (3 * c + 2) = B 3 c
/-- the last of runs: rows come back -/
theorem m_backs {σ0 s10 : kS} {l4 l5 : Int32} {B : kFn} {Q : kS → Prop} (hR : mR B s10) (h0 : ∀ p : Nat, p ≠ 0 → p ≠ 4 → p ≠ 7 → p ≠ 8 → p ≠ 9 → s10.1 p = σ0.1 p) (h1 : ∀ k : Nat, k ≠ 8 → k ≠ 9 → k ≠ 32 → k ≠ 33 → (k < 14 ∨ 28 < k) → s10.1 0 k = σ0.1 0 k) (h7 : ∀ j : Nat, j < 36 → s10.1 7 j = σ0.1 4 j) (h4 : l4 = σ0.1 0 8) (h5 : l5 = σ0.1 0 9) (h : ∀ σ' : kS, mU σ0 σ' → σ'.1 9 = s10.1 9 → σ'.1 0 32 = s10.1 0 32 → σ'.1 0 33 = s10.1 0 33 → mLast B σ' → Q σ') : wX5_runs_143 Q l4 l5 (0 : Int32) s10 := by
  intro P hP
  suffices key : ∀ k j : Nat, j + k = 36 → ∀ s : kS, (∀ p : Nat, p ≠ 4 → p ≠ 8 → s.1 p = s10.1 p) → (∀ i : Nat, i < j → s.1 8 i = s10.1 4 i) → (∀ i : Nat, i < j → s.1 4 i = s10.1 7 i) → (∀ i : Nat, j ≤ i → s.1 4 i = s10.1 4 i) → P s (nI j) from key 36 0 rfl s10 (fun _ _ _ => rfl) (fun i hi => absurd hi (by omega)) (fun i hi => absurd hi (by omega)) (fun _ _ => rfl)
  intro k
  induction k with
  | zero =>
    intro j hj s k1 k2 k3 k4
    have e : j = 36 := by omega
    subst e
    refine hP _ _ ⟨fun _ s13 e13 s14 e14 => ?_, fun q => absurd (k_at rfl) q⟩
    have off : ∀ p : Nat, p ≠ 0 → s14.1 p = s.1 p := fun p hp => by rw [e14, kset_off hp, e13, kset_off hp]
    have on : ∀ i : Nat, i ≠ 8 → i ≠ 9 → s14.1 0 i = s.1 0 i := fun i h8 h9 => by rw [e14, kset_ne h9, e13, kset_ne h8]
    refine h s14 ⟨fun p p0 p4 p7 p8 p9 => ?_, fun i i32 i33 hi => ?_, fun i hi => ?_⟩ ?_ ?_ ?_ (fun c hc => ?_)
    · rw [off p p0, k1 p p4 p8]
      exact h0 p p0 p4 p7 p8 p9
    · by_cases e9 : i = 9
      · subst e9
        rw [e14, kset_at]
        exact h5
      · by_cases e8 : i = 8
        · subst e8
          rw [e14, kset_ne (by decide), e13, kset_at]
          exact h4
        · rw [on i e8 e9, k1 0 (by decide) (by decide)]
          exact h1 i e8 e9 i32 i33 hi
    · rw [off 4 (by decide), k3 i hi]
      exact h7 i hi
    · rw [off 9 (by decide), k1 9 (by decide) (by decide)]
    · rw [on 32 (by decide) (by decide), k1 0 (by decide) (by decide)]
    · rw [on 33 (by decide) (by decide), k1 0 (by decide) (by decide)]
    · rw [off 8 (by decide), k2 _ (by omega), k2 _ (by omega), k2 _ (by omega)]
      exact hR.1 c hc
  | succ k ih =>
    intro j hj s k1 k2 k3 k4
    refine hP _ _ ⟨fun q => absurd q (k_ge (N := 36) (by omega) (by decide) rfl), fun _ => ⟨k_idx (by omega) (by decide), k_idx (by omega) (by decide), fun s15 e15 => ⟨k_idx (by omega) (by decide), k_idx (by omega) (by decide), fun s16 e16 x ex => ?_⟩⟩⟩
    rw [k_cl (by omega)] at e15 e16
    rw [ex, k_n1]
    refine ih (j + 1) (by omega) s16 (fun p p4 p8 => ?_) (fun i hi => ?_) (fun i hi => ?_) (fun i hi => ?_)
    · rw [e16, kset_off p4, e15, kset_off p8]
      exact k1 p p4 p8
    · rw [e16, kset_off (by decide), e15]
      by_cases e : i = j
      · subst e
        rw [kset_at]
        exact k4 i (Nat.le_refl _)
      · rw [kset_ne e]
        exact k2 i (by omega)
    · rw [e16]
      by_cases e : i = j
      · subst e
        rw [kset_at, e15, kset_off (by decide)]
        exact congrFun (k1 7 (by decide) (by decide)) i
      · rw [kset_ne e, e15, kset_off (by decide)]
        exact k3 i (by omega)
    · rw [e16, kset_ne (by omega), e15, kset_off (by decide)]
      exact k4 i (by omega)
theorem m_runs {nt n : Nat} {W : Nat → Nat → (Nat → Int32) → Int32} {d : Bool} {seed l2 : Int32} {A : kFn} {σ : kS} {Q : kS → Prop} (hn : n ≤ 30) (hd : l2 = if d = true then 1 else 0) (hE : mE W nt σ) (hO : sOk nt A) (hR : mR A σ) (h : ∀ σ' : kS, mU σ σ' → (∀ i : Nat, i < n → σ'.1 9 i = sDrys W d seed A i) → σ'.1 0 33 = sDry (sRun W d seed n A) → σ'.1 0 32 = (sRun W d seed n A) 0 10 - A 0 10 → mLast (sRun W d seed n A) σ' → Q σ') : wX5_runs (nI n) l2 seed σ Q := by
  intro x1 e1 x2 e2
  have go : ∀ s0 : kS, (∀ p : Nat, p ≠ 7 → s0.1 p = σ.1 p) → (∀ i : Nat, i < 36 → s0.1 7 i = σ.1 4 i) → wX5_runs_48 Q (nI n) l2 x1 x2 seed (0 : Int32) s0 := by
    intro s0 z1 z2
    have r0 : mR A s0 := by
      obtain ⟨a, b, c⟩ := hR
      refine ⟨fun x hx => ?_, ?_, fun w hw => ?_⟩
      · rw [z1 4 (by decide)]
        exact a x hx
      · rw [z1 0 (by decide)]
        exact b
      · rw [z1 5 (by decide), z1 6 (by decide)]
        exact c w hw
    have E0 : mE W nt s0 := by
      refine ⟨hE.1, fun t ht => ?_⟩
      rw [z1 1 (by decide), z1 2 (by decide)]
      exact hE.2 t ht
    intro P hP
    suffices key : ∀ k i : Nat, i + k = n → ∀ s : kS, mR (sRun W d seed i A) s → mP s0 s → (∀ j : Nat, j < i → s.1 9 j = sDrys W d seed A j) → P s (sZ seed i) (nI i) from key n 0 (by omega) s0 r0 mP.rf (fun j hj => absurd hj (by omega))
    intro k
    induction k with
    | zero =>
      intro i hi s r o hd9
      have e : i = n := by omega
      subst e
      refine hP _ _ _ ⟨fun _ => m_drySet r (fun s9 e9 s10 e10 => ?_), fun q => absurd (Int32.le_refl _) q⟩
      have off : ∀ p : Nat, p ≠ 0 → s10.1 p = s.1 p := fun p hp => by rw [e10, kset_off hp, e9, kset_off hp]
      have on : ∀ j : Nat, j ≠ 32 → j ≠ 33 → s10.1 0 j = s.1 0 j := fun j h8 h9 => by rw [e10, kset_ne h8, e9, kset_ne h9]
      have r10 : mR (sRun W d seed i A) s10 := by
        obtain ⟨a, ⟨b1, b2, b3, b4, b5⟩, c⟩ := r
        refine ⟨fun x hx => ?_, ⟨?_, ?_, ?_, ?_, ?_⟩, fun w hw => ?_⟩
        · rw [off 4 (by decide)]
          exact a x hx
        · rw [on 7 (by decide) (by decide)]; exact b1
        · rw [on 8 (by decide) (by decide)]; exact b2
        · rw [on 9 (by decide) (by decide)]; exact b3
        · rw [on 13 (by decide) (by decide)]; exact b4
        · rw [on 4 (by decide) (by decide)]; exact b5
        · rw [off 5 (by decide), off 6 (by decide)]
          exact c w hw
      refine m_backs (σ0 := σ) r10 (fun p p0 p4 p7 p8 p9 => ?_) (fun j j8 j9 j32 j33 hj => ?_) (fun j hj => ?_) e1 e2 (fun s2 u2 k9 k32 k33 kl => h s2 u2 (fun j hj => ?_) ?_ ?_ kl)
      · rw [off p p0, o.1 p p0 p4 p9, z1 p p7]
      · rw [on j j32 j33, o.2 j j8 j9 hj, z1 0 (by decide)]
      · rw [off 7 (by decide), o.1 7 (by decide) (by decide) (by decide)]
        exact z2 j hj
      · rw [k9, off 9 (by decide)]
        exact hd9 j hj
      · rw [k33, e10, kset_ne (by decide), e9, kset_at]
      · rw [k32, e10, kset_at, e9, kset_ne (by decide), r.2.1.2.2.1, e2, hR.2.1.2.2.1]
    | succ k ih =>
      intro i hi s r o hd9
      refine hP _ _ _ ⟨fun q => absurd q (nI_ge (by omega) (by omega)), fun _ x11 e11 => ?_⟩
      rw [← sZ_s] at e11
      refine m_step (B := sRun W d seed i A) (by omega) hd e11 (E0.p o) (sRun_ok hO i).1 r (fun s2 r2 o2 k1 k2 => ?_)
      rw [e11]
      refine ih (i + 1) (by omega) s2 r2 (o.tr o2) (fun j hj => ?_)
      by_cases e : j = i
      · subst e
        exact k2
      · rw [k1 j e]
        exact hd9 j (by omega)
  intro P hP
  suffices key : ∀ k j : Nat, j + k = 36 → ∀ s : kS, (∀ p : Nat, p ≠ 7 → s.1 p = σ.1 p) → (∀ i : Nat, i < j → s.1 7 i = σ.1 4 i) → P s (nI j) from key 36 0 rfl σ (fun _ _ => rfl) (fun i hi => absurd hi (by omega))
  intro k
  induction k with
  | zero =>
    intro j hj s k1 k2
    have e : j = 36 := by omega
    subst e
    exact hP _ _ ⟨fun _ => go s k1 k2, fun q => absurd (k_at rfl) q⟩
  | succ k ih =>
    intro j hj s k1 k2
    refine hP _ _ ⟨fun q => absurd q (k_ge (N := 36) (by omega) (by decide) rfl), fun _ => ⟨k_idx (by omega) (by decide), k_idx (by omega) (by decide), fun s4 e4 x ex => ?_⟩⟩
    rw [k_cl (by omega)] at e4
    rw [ex, k_n1]
    refine ih (j + 1) (by omega) s4 (fun p hp => ?_) (fun i hi => ?_)
    · rw [e4, kset_off hp]
      exact k1 p hp
    · rw [e4]
      by_cases e : i = j
      · subst e
        rw [kset_at]
        exact congrFun (k1 4 (by decide)) i
      · rw [kset_ne e]
        exact k2 i (by omega)
