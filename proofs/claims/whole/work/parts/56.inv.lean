/-! the two programs side by side: what holds between calls -/
/-- the kept fen K in the reference -/
def mK (K : kFn) (σ : kS) : Prop :=
  (∀ c : Nat, c < 12 → σ.1 10 (3 * c) = K 1 c ∧ σ.1 10 (3 * c + 1) = K 2 c ∧ σ.1 10 (3 * c + 2) = K 3 c) ∧ (σ.1 0 37 = K 0 8 ∧ σ.1 0 38 = K 0 9 ∧ σ.1 0 39 = K 0 10 ∧ σ.1 0 36 = K 0 11 ∧ σ.1 0 40 = K 0 12) ∧
  ∀ w : Nat, w < sWorks K → σ.1 5 w = K 4 w ∧ σ.1 11 (3 * w) = K 5 w ∧ σ.1 11 (3 * w + 1) = K 6 w ∧ σ.1 11 (3 * w + 2) = K 7 w
def kYear (A : kFn) : Prop := 0 ≤ A 0 9 ∧ A 0 9 ≤ 999
def kKeep (nt : Nat) (σx σm : kS) : Prop := (σx.1 0 3 = 0 ∧ σm.1 0 36 = -1) ∨ (σx.1 0 3 = 1 ∧ sOk nt (fx 21 σx) ∧ kYear (fx 21 σx) ∧ sWorks (fx 21 σx) ≤ sWorks (fx 3 σx) ∧ mK (fx 21 σx) σm)
def kTape (σx σm : kS) : Prop := ∃ n : Nat, n ≤ 160 ∧ σx.1 30 1 = nI n ∧ σm.1 0 6 = nI n ∧ ∀ j : Nat, j < n → σm.1 3 j = σx.1 31 j ∧ 0 ≤ σx.1 31 j ∧ σx.1 31 j ≤ 255
def kSheet (σx σm : kS) (s : Nat) : Prop := (σx.1 39 s = -1 ∧ σm.1 12 s = 0) ∨ ((∃ q : Nat, q < 3 ∧ σx.1 39 s = nI q ∧ σm.1 13 s = nI q) ∧ σm.1 12 s = 1 ∧ ∃ n : Nat, n ≤ 40 ∧ σx.1 40 s = nI n ∧ σm.1 14 s = nI n ∧ ∀ i : Nat, i < n → σx.1 (35 + s) i = σm.1 15 (40 * s + i))
def kInv (tx : List kTxt) (σx σm : kS) : Prop :=
  xE tx σx ∧ mE (sW tx) tx.length σm ∧ σm.1 0 3 = nI tx.length ∧ sOk tx.length (fx 3 σx) ∧ mR (nf (fx 3 σx)) σm ∧ kYear (fx 3 σx) ∧ kKeep tx.length σx σm ∧ kTape σx σm ∧ ∀ s : Nat, s < 4 → kSheet σx σm s
theorem fx_eq {b : Nat} {σ σ' : kS} (h : ∀ r : Nat, r ≤ 7 → σ'.1 (b + r) = σ.1 (b + r)) : fx b σ' = fx b σ := by
  funext r i
  unfold fx
  split
  · rw [h r (by omega)]
  · rfl
theorem kInv.u {tx : List kTxt} {σx σm σx' σm' : kS} (h : kInv tx σx σm) (hx : xO1 σx σx') (hm : mU σm σm') : kInv tx σx' σm' := by
  obtain ⟨a1, a2, a3, a4, a5, a6, a7, a8, a9⟩ := h
  have f3 := xO1_fx hx
  have f21 : fx 21 σx' = fx 21 σx := fx_eq (fun r hr => hx.1 _ (by omega) (by omega))
  have m0 := fun p h0 h4 h7 h8 h9 => hm.1 p h0 h4 h7 h8 h9
  refine ⟨a1.o1 hx, a2.u hm, ?_, ?_, ?_, ?_, ?_, ?_, fun s hs => ?_⟩
  · rw [hm.2.1 3 (by decide) (by decide) (by decide)]
    exact a3
  · rw [f3]; exact a4
  · rw [f3]; exact mU_R hm a5
  · rw [f3]; exact a6
  · rcases a7 with ⟨b1, b2⟩ | ⟨b1, b2, b3, b4, b5, b6, b7⟩
    · refine Or.inl ⟨?_, ?_⟩
      · rw [hx.1 0 (by decide) (by decide)]; exact b1
      · rw [hm.2.1 36 (by decide) (by decide) (by decide)]; exact b2
    · refine Or.inr ⟨?_, ?_, ?_, ?_, ?_⟩
      · rw [hx.1 0 (by decide) (by decide)]; exact b1
      · rw [f21]; exact b2
      · rw [f21]; exact b3
      · rw [f21, f3]; exact b4
      · rw [f21]
        refine ⟨fun c hc => ?_, ?_, fun w hw => ?_⟩
        · rw [hm.1 10 (by decide) (by decide) (by decide) (by decide) (by decide)]
          exact b5 c hc
        · rw [hm.2.1 37 (by decide) (by decide) (by decide), hm.2.1 38 (by decide) (by decide) (by decide), hm.2.1 39 (by decide) (by decide) (by decide), hm.2.1 36 (by decide) (by decide) (by decide), hm.2.1 40 (by decide) (by decide) (by decide)]
          exact b6
        · rw [hm.1 5 (by decide) (by decide) (by decide) (by decide) (by decide), hm.1 11 (by decide) (by decide) (by decide) (by decide) (by decide)]
          exact b7 w hw
  · obtain ⟨n, c1, c2, c3, c4⟩ := a8
    refine ⟨n, c1, ?_, ?_, fun j hj => ?_⟩
    · rw [hx.1 30 (by decide) (by decide)]; exact c2
    · rw [hm.2.1 6 (by decide) (by decide) (by decide)]; exact c3
    · rw [hx.1 31 (by decide) (by decide), hm.1 3 (by decide) (by decide) (by decide) (by decide) (by decide)]
      exact c4 j hj
  · have := a9 s hs
    unfold kSheet at this ⊢
    rw [hx.1 39 (by decide) (by decide), hx.1 40 (by decide) (by decide), hx.1 (35 + s) (by omega) (by omega), hm.1 12 (by decide) (by decide) (by decide) (by decide) (by decide), hm.1 13 (by decide) (by decide) (by decide) (by decide) (by decide), hm.1 14 (by decide) (by decide) (by decide) (by decide) (by decide), hm.1 15 (by decide) (by decide) (by decide) (by decide) (by decide)]
    exact this
/-- a call of both -/
def kSim (tx : List kTxt) (σm : kS) (w : (Int32 → kS → Prop) → Prop) : Int32 → kS → Prop := fun r σx' => w (fun r' σm' => r' = r ∧ kInv tx σx' σm')
theorem x_areYears {l : Int32} {Q : Int32 → Prop} (h1 : ∀ n : Nat, n ≤ 30 → l = nI n → Q 1) (h0 : ¬ (0 ≤ l ∧ l ≤ 30) → Q 0) : wX4_areYears l Q := by
  refine ⟨fun q => h0 (by grind), fun q => ⟨fun q2 => h0 (by grind), fun q2 => ?_⟩⟩
  obtain ⟨n, hn, e⟩ := nI_of2 (x := l) (M := 30) (n := 30) (by decide) q (by grind)
  exact h1 n hn e
theorem m_years {l : Int32} {Q : Int32 → Prop} (h1 : (0 ≤ l ∧ l ≤ 30) → Q 1) (h0 : ¬ (0 ≤ l ∧ l ≤ 30) → Q 0) : wX5_in l.toInt64 (0 : Int64) (30 : Int64) Q := m_in32 (lo := 0) (hi := 30) (by decide) (by decide) h1 h0
theorem nI_30 {n : Nat} (h : n ≤ 30) : 0 ≤ nI n ∧ nI n ≤ 30 := ⟨nI_pos' (by omega), nI_le (b := 30) (by omega) (by decide)⟩
theorem s_first {tx : List kTxt} {σx σm : kS} {l1 l2 : Int32} (hI : kInv tx σx σm) : wX4_first tx l1 l2 σx (kSim tx σm (wX5_first l1 l2 σm)) := by
  have hI0 := hI
  obtain ⟨a1, a2, a3, a4, a5, a6, a7, a8, a9⟩ := hI
  refine x_areYears (fun n hn en => ⟨fun q => absurd q (by decide), fun _ => ⟨fun q => ?_, fun q => ⟨fun q2 => ?_, fun q2 => ?_⟩⟩⟩) (fun q => ⟨fun _ => ?_, fun z => absurd rfl z⟩)
  · subst en
    unfold kSim wX5_first
    exact m_years (fun _ => ⟨fun z => absurd z (by decide), fun _ => m_in32 (lo := 1) (hi := 12) (by decide) (by decide) (fun z => absurd z.1 (by grind)) (fun _ => ⟨fun z => absurd rfl z, fun _ => ⟨rfl, hI0⟩⟩)⟩) (fun z => absurd (nI_30 hn) z)
  · subst en
    refine x_years hn a1 a4 (fun s1 o1 f1 d1 => x_firstDried hn d1 ?_)
    unfold kSim wX5_first
    refine m_years (fun _ => ⟨fun z => absurd z (by decide), fun _ => m_in32 (lo := 1) (hi := 12) (by decide) (by decide) (fun _ => ⟨fun _ => ?_, fun z => absurd z (by decide)⟩) (fun z => absurd (by grind) z)⟩) (fun z => absurd (nI_30 hn) z)
    refine m_runs (d := false) hn rfl a2 (nf_ok.mpr a4) a5 (fun s2 u2 d2 _ _ _ => m_first hn (fun i hi => ⟨d2 i hi, sDry_set⟩) ⟨rfl, hI0.u o1 u2⟩)
  · subst en
    unfold kSim wX5_first
    exact m_years (fun _ => ⟨fun z => absurd z (by decide), fun _ => m_in32 (lo := 1) (hi := 12) (by decide) (by decide) (fun z => absurd z.2 (by grind)) (fun _ => ⟨fun z => absurd rfl z, fun _ => ⟨rfl, hI0⟩⟩)⟩) (fun z => absurd (nI_30 hn) z)
  · unfold kSim wX5_first
    exact m_years (fun z => absurd z q) (fun _ => ⟨fun _ => ⟨rfl, hI0⟩, fun z => absurd rfl z⟩)
theorem s_drawn {tx : List kTxt} {σx σm : kS} {l1 l2 : Int32} (hI : kInv tx σx σm) : wX4_drawn tx l1 l2 σx (kSim tx σm (wX5_drawn l1 l2 σm)) := by
  have hI0 := hI
  obtain ⟨a1, a2, a3, a4, a5, a6, a7, a8, a9⟩ := hI
  refine x_areYears (fun n hn en => ⟨fun _ => ?_, fun z => absurd z (by decide)⟩) (fun q => ⟨fun z => absurd rfl z, fun _ => ?_⟩)
  · subst en
    refine x_drawn (by omega) a1 a4 (fun s1 o1 => ?_)
    unfold kSim wX5_drawn
    refine m_years (fun _ => ⟨fun z => absurd z (by decide), fun _ => m_runs (d := true) hn rfl a2 (nf_ok.mpr a4) a5 (fun s2 u2 d2 e33 _ _ => ?_)⟩) (fun z => absurd (nI_30 hn) z)
    rw [e33]
    exact m_bitsOf sDry_set ⟨rfl, hI0.u o1 u2⟩
  · unfold kSim wX5_drawn
    exact m_years (fun z => absurd z q) (fun _ => ⟨fun _ => ⟨rfl, hI0⟩, fun z => absurd rfl z⟩)
