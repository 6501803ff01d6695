/-! the two programs side by side: the fen now changes -/
def mN (σ σ' : kS) : Prop := (∀ p : Nat, p ≠ 0 → p ≠ 4 → p ≠ 5 → p ≠ 6 → σ'.1 p = σ.1 p) ∧ ∀ k : Nat, k ≠ 4 → k ≠ 7 → k ≠ 8 → k ≠ 9 → k ≠ 13 → (k < 14 ∨ 28 < k) → σ'.1 0 k = σ.1 0 k
theorem mO.n {σ σ' : kS} (h : mO σ σ') : mN σ σ' := ⟨fun p h0 h4 _ _ => h.1 p h0 h4, fun k _ _ h8 h9 _ hk => h.2 k h8 h9 hk⟩
theorem kInv.now {tx : List kTxt} {σx σm σx' σm' : kS} (h : kInv tx σx σm) (hx : xO 3 σx σx') (hm : mN σm σm') (hk : ∀ w : Nat, w < sWorks (fx 3 σx) → σm'.1 5 w = σm.1 5 w) (hO : sOk tx.length (fx 3 σx')) (hR : mR (nf (fx 3 σx')) σm') (hY : kYear (fx 3 σx')) (hW : sWorks (fx 3 σx) ≤ sWorks (fx 3 σx')) : kInv tx σx' σm' := by
  obtain ⟨a1, a2, a3, a4, a5, a6, a7, a8, a9⟩ := h
  have f21 : fx 21 σx' = fx 21 σx := fx_eq (fun r hr => hx.1 _ (by omega))
  refine ⟨a1.o hx (by decide), ⟨a2.1, fun t ht => ?_⟩, ?_, hO, hR, hY, ?_, ?_, fun s hs => ?_⟩
  · rw [hm.1 1 (by decide) (by decide) (by decide) (by decide), hm.1 2 (by decide) (by decide) (by decide) (by decide)]
    exact a2.2 t ht
  · rw [hm.2 3 (by decide) (by decide) (by decide) (by decide) (by decide) (by decide)]
    exact a3
  · rcases a7 with ⟨b1, b2⟩ | ⟨b1, b2, b3, b4, b5, b6, b7⟩
    · refine Or.inl ⟨?_, ?_⟩
      · rw [hx.1 0 (by decide)]; exact b1
      · rw [hm.2 36 (by decide) (by decide) (by decide) (by decide) (by decide) (by decide)]; exact b2
    · refine Or.inr ⟨?_, ?_, ?_, ?_, ?_⟩
      · rw [hx.1 0 (by decide)]; exact b1
      · rw [f21]; exact b2
      · rw [f21]; exact b3
      · rw [f21]; exact Nat.le_trans b4 hW
      · rw [f21]
        refine ⟨fun c hc => ?_, ?_, fun w hw => ?_⟩
        · rw [hm.1 10 (by decide) (by decide) (by decide) (by decide)]
          exact b5 c hc
        · rw [hm.2 37 (by decide) (by decide) (by decide) (by decide) (by decide) (by decide), hm.2 38 (by decide) (by decide) (by decide) (by decide) (by decide) (by decide), hm.2 39 (by decide) (by decide) (by decide) (by decide) (by decide) (by decide), hm.2 36 (by decide) (by decide) (by decide) (by decide) (by decide) (by decide), hm.2 40 (by decide) (by decide) (by decide) (by decide) (by decide) (by decide)]
          exact b6
        · rw [hk w (by omega), hm.1 11 (by decide) (by decide) (by decide) (by decide)]
          exact b7 w hw
  · obtain ⟨n, c1, c2, c3, c4⟩ := a8
    refine ⟨n, c1, ?_, ?_, fun j hj => ?_⟩
    · rw [hx.1 30 (by decide)]; exact c2
    · rw [hm.2 6 (by decide) (by decide) (by decide) (by decide) (by decide) (by decide)]; exact c3
    · rw [hx.1 31 (by decide), hm.1 3 (by decide) (by decide) (by decide) (by decide)]
      exact c4 j hj
  · have := a9 s hs
    unfold kSheet at this ⊢
    rw [hx.1 39 (by decide), hx.1 40 (by decide), hx.1 (35 + s) (by omega), hm.1 12 (by decide) (by decide) (by decide) (by decide), hm.1 13 (by decide) (by decide) (by decide) (by decide), hm.1 14 (by decide) (by decide) (by decide) (by decide), hm.1 15 (by decide) (by decide) (by decide) (by decide)]
    exact this
theorem sDrawFrom_0 {w : Nat} {A : kFn} {c : Int32} : (sDrawFrom A w c) 0 = A 0 := sDrawFrom_row (by decide)
theorem sDrain1_0 {V : Nat → (Nat → Int32) → Int32} {w i : Nat} {A : kFn} (hi : i ≠ 10) : (sDrain1 V w A) 0 i = A 0 i := by
  unfold sDrain1 sPay
  split
  · split
    · rw [fset_ne hi, sDrawFrom_0, sDrawFrom_0, sDrawFrom_0]
    · rw [fset_ne hi, sDrawFrom_0]
  · rfl
theorem sDrainN_0 {V : Nat → (Nat → Int32) → Int32} {i : Nat} {A : kFn} (hi : i ≠ 10) : ∀ n : Nat, (kfor n (sDrain1 V) A) 0 i = A 0 i := by
  intro n
  induction n with
  | zero => rfl
  | succ n ih => exact (sDrain1_0 hi).trans ih
theorem sDrain_0 {V : Nat → (Nat → Int32) → Int32} {i : Nat} {A : kFn} (hi : i ≠ 10) : (sDrain V A) 0 i = A 0 i := sDrainN_0 hi _
theorem sShrink_0 {V : Nat → (Nat → Int32) → Int32} {i : Nat} {A : kFn} : (sShrink V A) 0 i = A 0 i := congrFun (sShrink_row0 12) i
theorem sRain_0 {V : Nat → (Nat → Int32) → Int32} {i : Nat} {A : kFn} : (sRain V A) 0 i = A 0 i := congrFun (sRain_rule 12) i
theorem fset_at {A : kFn} {r i : Nat} {v : Int32} : fset A r i v r i = v := by
  unfold fset
  rw [if_pos rfl, if_pos rfl]
theorem sYear_year {V : Nat → (Nat → Int32) → Int32} {A : kFn} : (sYear V A) 0 9 = A 0 9 + 1 := by
  unfold sYear
  rw [fset_at, sShrink_0, sDrain_0 (by decide), sFlow_rule, sRain_0]
theorem sYear_works {V : Nat → (Nat → Int32) → Int32} {A : kFn} : sWorks (sYear V A) = sWorks A := by
  unfold sWorks sYear
  rw [fset_ne (by decide), sShrink_0, sDrain_0 (by decide), sFlow_rule, sRain_0]
theorem s_year {tx : List kTxt} {σx σm : kS} (hI : kInv tx σx σm) : wX4_year tx σx (kSim tx σm (wX5_year σm)) := by
  have hI0 := hI
  obtain ⟨a1, a2, a3, a4, a5, a6, a7, a8, a9⟩ := hI
  have ey : σm.1 0 8 = σx.1 3 9 := a5.2.1.2.1
  have hy : 0 ≤ σx.1 3 9 ∧ σx.1 3 9 ≤ 999 := a6
  refine ⟨fun q => ?_, fun q => ?_⟩
  · refine x_live a1 a4 (fun s1 f1 o1 => x_dryCells (x_pop ?_))
    unfold kSim wX5_year
    rw [ey]
    refine ⟨fun _ => m_live a2 (nf_ok.mpr a4) a5 (fun s2 r2 o2 => m_drySet r2 (m_bitsOf sDry_set ⟨?_, ?_⟩)), fun z => absurd q (by rw [z]; decide)⟩
    · rw [(sLive_ok a4).2.1, nf_dry, f1]
    · refine hI0.now o1 o2.n (fun w _ => by rw [o2.1 5 (by decide) (by decide)]) ?_ ?_ ?_ ?_
      · rw [f1]; exact (sLive_ok a4).1
      · rw [f1, ← (sLive_ok a4).2.1]; exact r2
      · unfold kYear
        rw [f1]
        unfold sLive
        rw [sYear_year]
        show 0 ≤ σx.1 3 9 + 1 ∧ σx.1 3 9 + 1 ≤ 999
        grind
      · rw [f1]
        unfold sLive
        rw [sYear_works]
        exact Nat.le_refl _
  · unfold kSim wX5_year
    rw [ey]
    exact ⟨fun z => absurd (by grind) z, fun _ => ⟨rfl, hI0⟩⟩
