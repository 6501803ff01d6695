/-! the two programs side by side: count, feed, force -/
def sGoing (A : kFn) : Nat → Int32
  | 0 => 0
  | w + 1 => sGoing A w + A 7 w
theorem nf_going {A : kFn} : ∀ n : Nat, n ≤ 6 → sGoing (nf A) n = sGoing A n := by
  intro n
  induction n with
  | zero => exact fun _ => rfl
  | succ n ih =>
    intro hn
    show sGoing (nf A) n + nf A 7 n = sGoing A n + A 7 n
    rw [ih (by omega), nf_w (by decide) (by decide) (by omega)]
theorem x_going {nt b : Nat} {σ : kS} {Q : Int32 → kS → Prop} (hO : sOk nt (fx b σ)) (h : Q (sGoing (fx b σ) (sWorks (fx b σ))) σ) : wX0_goingWorks b σ Q := by
  have h6 := hO.works.1
  intro P hP
  suffices key : ∀ k w : Nat, w + k = 6 → P σ (sGoing (fx b σ) (min w (sWorks (fx b σ)))) (nI w) from by
    have := key 6 0 rfl
    rw [Nat.zero_min] at this
    exact this
  intro k
  induction k with
  | zero =>
    intro w hw
    have e : w = 6 := by omega
    subst e
    refine hP _ _ _ ⟨fun _ => ?_, fun q => absurd (k_at rfl) q⟩
    rw [Nat.min_eq_right h6]
    exact h
  | succ k ih =>
    intro w hw
    have e := ih (w + 1) (by omega)
    refine hP _ _ _ ⟨fun q => absurd q (k_ge (N := 6) (by omega) (by decide) rfl), fun _ => x_goes hO (by omega) ?_⟩
    by_cases hc : w < sWorks (fx b σ)
    · have m1 : min w (sWorks (fx b σ)) = w := Nat.min_eq_left (by omega)
      have m2 : min (w + 1) (sWorks (fx b σ)) = w + 1 := Nat.min_eq_left (by omega)
      rw [m2] at e
      rw [m1]
      rcases (hO.2.2.2.2 w hc).2.2.2 with g | g
      · rw [if_neg (fun z => absurd z.2 (by rw [g]; decide))]
        refine ⟨fun _ x ex => ?_, fun z => absurd rfl z⟩
        rw [ex, k_n1]
        rw [show sGoing (fx b σ) (w + 1) = sGoing (fx b σ) w + fx b σ 7 w from rfl, g, Int32.add_zero] at e
        exact e
      · rw [if_pos ⟨hc, g⟩]
        refine ⟨fun z => absurd z (by decide), fun _ x6 e6 x ex => ?_⟩
        rw [ex, k_n1, e6]
        rw [show sGoing (fx b σ) (w + 1) = sGoing (fx b σ) w + fx b σ 7 w from rfl, g] at e
        exact e
    · rw [if_neg (fun z => hc z.1)]
      refine ⟨fun _ x ex => ?_, fun z => absurd rfl z⟩
      rw [ex, k_n1]
      rw [Nat.min_eq_right (by omega)] at e ⊢
      exact e
theorem m_going {nt : Nat} {A : kFn} {l1 : Int32} {σ : kS} {Q : Int32 → kS → Prop} (hO : sOk nt A) (hR : mR A σ) (h1 : l1 ≠ 0 → Q (sGoing A (sWorks A)) σ) (h0 : l1 = 0 → Q (A 0 11) σ) : wX5_count_93 Q l1 (0 : Int32) (0 : Int32) σ := by
  obtain ⟨h6, hn⟩ := hO.works
  have hn2 : σ.1 0 13 = nI (sWorks A) := hR.2.1.2.2.2.1.trans hn
  intro P hP
  suffices key : ∀ k w : Nat, w + k = sWorks A → P (sGoing A w) (nI w) from key (sWorks A) 0 (by omega)
  intro k
  induction k with
  | zero =>
    intro w hw
    have e : w = sWorks A := by omega
    refine hP _ _ ⟨fun _ => ⟨fun q => ?_, fun q => ?_⟩, fun q => absurd (by rw [hn2, e]; exact Int32.le_refl _) q⟩
    · rw [e]
      exact h1 q
    · rw [hR.2.1.2.2.2.1]
      exact h0 q
  | succ k ih =>
    intro w hw
    refine hP _ _ ⟨fun q => absurd q (by rw [hn2]; exact nI_ge (by omega) (by omega)), fun _ => ?_⟩
    rw [n_32, k_cl (by omega), (hR.2.2 w (by omega)).2.2.2]
    refine ⟨k_idx (by omega) (by decide), fun x ex y ey => ?_⟩
    rw [ey, k_n1, ex]
    exact ih (w + 1) (by omega)
theorem s_count {tx : List kTxt} {σx σm : kS} {l1 : Int32} (hI : kInv tx σx σm) : wX4_count l1 σx (kSim tx σm (wX5_count l1 σm)) := by
  have hI0 := hI
  obtain ⟨a1, a2, a3, a4, a5, a6, a7, a8, a9⟩ := hI
  obtain ⟨n, t1, t2, t3, t4⟩ := a8
  have hb := a5.2.1
  have hO := nf_ok.mpr a4
  have h6 := a4.works.1
  refine ⟨fun q => ?_, fun q => x_going a4 ?_, fun q => x_dryCells (x_pop ?_), fun q => ?_, fun q => ?_, fun q => ?_, fun q => ?_, fun q => ?_, fun q0 q1 q2 q3 q4 q5 q6 q7 => ?_⟩
  · subst q
    unfold kSim wX5_count
    exact m_in32 (lo := 0) (hi := 7) (by decide) (by decide) (fun _ => ⟨fun _ => ⟨fun _ => m_going hO a5 (fun z => absurd rfl z) (fun _ => ⟨nf_0 (by decide) (by decide), hI0⟩), fun z => absurd (by decide) z⟩, fun z => absurd z (by decide)⟩) (fun z => absurd (by decide) z)
  · subst q
    unfold kSim wX5_count
    exact m_in32 (lo := 0) (hi := 7) (by decide) (by decide) (fun _ => ⟨fun _ => ⟨fun _ => m_going hO a5 (fun _ => ⟨by rw [nf_works, nf_going _ h6], hI0⟩) (fun z => absurd z (by decide)), fun z => absurd (by decide) z⟩, fun z => absurd z (by decide)⟩) (fun z => absurd (by decide) z)
  · subst q
    unfold kSim wX5_count
    exact m_in32 (lo := 0) (hi := 7) (by decide) (by decide) (fun _ => ⟨fun _ => ⟨fun z => absurd z (by decide), fun _ => ⟨fun z => absurd rfl z, fun _ => m_drySet a5 (m_bitsOf sDry_set ⟨by rw [nf_dry], hI0⟩)⟩⟩, fun z => absurd z (by decide)⟩) (fun z => absurd (by decide) z)
  · subst q
    unfold kSim wX5_count
    exact m_in32 (lo := 0) (hi := 7) (by decide) (by decide) (fun _ => ⟨fun _ => ⟨fun z => absurd z (by decide), fun _ => ⟨fun _ => ⟨fun z => absurd rfl z, fun _ => ⟨hb.2.1, hI0⟩⟩, fun z => absurd z (by decide)⟩⟩, fun z => absurd z (by decide)⟩) (fun z => absurd (by decide) z)
  · subst q
    unfold kSim wX5_count
    exact m_in32 (lo := 0) (hi := 7) (by decide) (by decide) (fun _ => ⟨fun _ => ⟨fun z => absurd z (by decide), fun _ => ⟨fun _ => ⟨fun _ => ⟨fun z => absurd rfl z, fun _ => ⟨hb.2.2.1, hI0⟩⟩, fun z => absurd z (by decide)⟩, fun z => absurd z (by decide)⟩⟩, fun z => absurd z (by decide)⟩) (fun z => absurd (by decide) z)
  · subst q
    unfold kSim wX5_count
    exact m_in32 (lo := 0) (hi := 7) (by decide) (by decide) (fun _ => ⟨fun _ => ⟨fun z => absurd z (by decide), fun _ => ⟨fun _ => ⟨fun _ => ⟨fun _ => ⟨fun z => absurd rfl z, fun _ => ⟨by rw [a3, a1.1], hI0⟩⟩, fun z => absurd z (by decide)⟩, fun z => absurd z (by decide)⟩, fun z => absurd z (by decide)⟩⟩, fun z => absurd z (by decide)⟩) (fun z => absurd (by decide) z)
  · subst q
    unfold wX1_size kSim wX5_count
    exact m_in32 (lo := 0) (hi := 7) (by decide) (by decide) (fun _ => ⟨fun _ => ⟨fun z => absurd z (by decide), fun _ => ⟨fun _ => ⟨fun _ => ⟨fun _ => ⟨fun _ => ⟨fun z => absurd rfl z, fun _ => ⟨by rw [t3, t2], hI0⟩⟩, fun z => absurd z (by decide)⟩, fun z => absurd z (by decide)⟩, fun z => absurd z (by decide)⟩, fun z => absurd z (by decide)⟩⟩, fun z => absurd z (by decide)⟩) (fun z => absurd (by decide) z)
  · subst q
    unfold kSim wX5_count
    have hr : σm.1 0 4 = σx.1 3 12 := hb.2.2.2.2
    refine m_in32 (v := 7) (lo := 0) (hi := 7) (by decide) (by decide) (fun _ => ⟨fun _ => ?_, fun z => absurd z (by decide)⟩) (fun z => absurd (by decide) z)
    refine ⟨fun z => absurd z (by decide), fun _ => ⟨fun _ => ?_, fun z => absurd z (by decide)⟩⟩
    refine ⟨fun _ => ⟨fun _ => ⟨fun _ => ⟨fun _ => ⟨hr, hI0⟩, fun z => absurd z (by decide)⟩, fun z => absurd z (by decide)⟩, fun z => absurd z (by decide)⟩, fun z => absurd z (by decide)⟩
  · unfold kSim wX5_count
    refine m_in32 (lo := 0) (hi := 7) (by decide) (by decide) (fun z => ?_) (fun _ => ⟨fun z => absurd rfl z, fun _ => ⟨rfl, hI0⟩⟩)
    exfalso
    obtain ⟨m, hm, e⟩ := nI_of2 (x := l1) (M := 7) (n := 7) (by decide) (by grind) z.2
    have hc : m = 0 ∨ m = 1 ∨ m = 2 ∨ m = 3 ∨ m = 4 ∨ m = 5 ∨ m = 6 ∨ m = 7 := by omega
    rcases hc with h | h | h | h | h | h | h | h <;> subst h
    · exact q0 e
    · exact q1 e
    · exact q2 e
    · exact q3 e
    · exact q4 e
    · exact q5 e
    · exact q6 e
    · exact q7 e
