/-! pure: a year of the reference -/
theorem i_min {x y : Int32} : (if x ≤ y then x else y) = sMin x y := by
  unfold sMin
  split <;> split <;> grind
theorem m_drawsOf {nt w c : Nat} {A : kFn} {σ : kS} {Q : Int32 → kS → Prop} (hO : sOk nt A) (hR : mR A σ) (hw : w < sWorks A) (hc : c < 12) (h : Q (sDraw A w c) σ) : wX5_drawsOf (nI w) (nI c) σ Q := by
  obtain ⟨h6, hn⟩ := hO.works
  obtain ⟨r1, r2, r3, r4⟩ := hR.2.2 w hw
  obtain ⟨f1, f2, f3⟩ := hR.1 c hc
  have hk := (hO.2.2.2.2 w hw).1
  have hwat := (hO.1 c hc).2.2
  unfold wX5_drawsOf
  rw [n_3, n_32, k_cl (by omega), k_cl (by omega), k_cl (by omega), r1, r2, f3, hR.2.1.2.1]
  have fin : ∀ v : Int32, v = sWant A w c → wX5_drawsOf_108 Q (A 3 c) v σ := by
    intro v hv
    have h := h
    unfold sDraw at h
    rw [← hv, ← i_min] at h
    refine ⟨fun q => ?_, fun q => ?_⟩
    · rw [if_pos q] at h
      exact h
    · rw [if_neg q] at h
      exact h
  have zero : sWant A w c = 0 → Q (0 : Int32) σ := by
    intro hz
    have h := h
    unfold sDraw at h
    rw [hz] at h
    have e : sMin (A 3 c) 0 = 0 := by unfold sMin; split <;> grind
    rw [e] at h
    exact h
  have mid : (A 4 w = 5 → False) → (A 4 w = 3 → ¬ krem (A 0 9) 3 = 2) → wX5_drawsOf_51 Q (nI c) (A 4 w) (A 5 w) (A 3 c) σ := by
    intro h5 h3
    unfold wX5_drawsOf_51
    rw [n_3, k_cl (by omega), f1, hR.2.1.1]
    refine ⟨fun q2 => ⟨fun q4 => ⟨fun q0 => fin _ ?_, fun q0 => ⟨k_idx (by omega) (by decide), fun q => fin _ ?_, fun q => fin _ ?_⟩⟩, fun q4 => fin _ ?_⟩, fun q2 => fin _ ?_⟩
    · unfold sWant
      rw [q0, if_neg (by decide), if_neg (by decide), if_neg (by decide), if_neg (by decide), if_neg (by decide)]
    · unfold sWant
      by_cases k1 : A 4 w = 1
      · rw [if_pos k1, if_pos q]
      · have k3 : A 4 w = 3 := by grind
        rw [k3, if_neg (by decide), if_neg (by decide), if_pos rfl, if_neg (h3 k3), if_pos q]
    · unfold sWant
      by_cases k1 : A 4 w = 1
      · rw [if_pos k1, if_neg q]
        exact Int32.add_comm _ _
      · have k3 : A 4 w = 3 := by grind
        rw [k3, if_neg (by decide), if_neg (by decide), if_pos rfl, if_neg (h3 k3), if_neg q]
        exact Int32.add_comm _ _
    · unfold sWant
      rw [q4, if_neg (by decide), if_neg (by decide), if_neg (by decide), if_pos rfl]
    · unfold sWant
      rw [q2, if_neg (by decide), if_pos rfl]
  refine ⟨k_idx (by omega) (by decide), fun x1 e1 => ⟨k_idx (by omega) (by decide), fun x2 e2 => ⟨k_idx (by omega) (by decide), fun x3 e3 => ?_⟩⟩⟩
  subst e1 e2 e3
  refine ⟨fun q => zero ?_, fun q => ⟨fun q3 => mid q (fun z => absurd z q3), fun q3 => ⟨fun q2 => mid q (fun _ => q2), fun q2 => zero ?_⟩⟩⟩
  · unfold sWant
    rw [q, if_neg (by decide), if_neg (by decide), if_neg (by decide), if_neg (by decide), if_pos rfl]
  · unfold sWant
    rw [q3, if_neg (by decide), if_neg (by decide), if_pos rfl, if_pos q2]
theorem m_in {x lo hi : Int64} {Q : Int32 → Prop} (h : Q (if x < lo then 0 else if hi < x then 0 else 1)) : wX5_in x lo hi Q := by
  refine ⟨fun q => ?_, fun q => ⟨fun q2 => ?_, fun q2 => ?_⟩⟩
  · rw [if_pos ((lg_cmp_lt _ _).mp q)] at h
    exact h
  · rw [if_neg (fun z => q ((lg_cmp_lt _ _).mpr z)), if_pos ((lg_cmp_gt _ _).mp q2)] at h
    exact h
  · rw [if_neg (fun z => q ((lg_cmp_lt _ _).mpr z)), if_neg (fun z => q2 ((lg_cmp_gt _ _).mpr z))] at h
    exact h
theorem i_l64 {x y : Int32} : x.toInt64 < y.toInt64 ↔ x < y := by
  rw [Int64.lt_iff_toInt_lt, i_lt, Int32.toInt_toInt64, Int32.toInt_toInt64]
theorem m_in32 {v lo hi : Int32} {L H : Int64} {Q : Int32 → Prop} (hL : lo.toInt64 = L) (hH : hi.toInt64 = H) (h1 : (lo ≤ v ∧ v ≤ hi) → Q 1) (h0 : ¬ (lo ≤ v ∧ v ≤ hi) → Q 0) : wX5_in v.toInt64 L H Q := by
  subst hL hH
  refine m_in ?_
  by_cases q1 : v < lo
  · rw [if_pos (i_l64.mpr q1)]
    exact h0 (by grind)
  · by_cases q2 : hi < v
    · rw [if_neg (fun z => q1 (i_l64.mp z)), if_pos (i_l64.mpr q2)]
      exact h0 (by grind)
    · rw [if_neg (fun z => q1 (i_l64.mp z)), if_neg (fun z => q2 (i_l64.mp z))]
      exact h1 (by grind)
theorem m_isCell {c : Int32} {Q : Int32 → Prop} (h1 : (0 ≤ c ∧ c < 12) → Q 1) (h0 : ¬ (0 ≤ c ∧ c < 12) → Q 0) : wX5_isCell c Q := by
  refine m_in32 (lo := 0) (hi := 11) (by decide) (by decide) (fun q => ⟨Or.inr rfl, h1 (by grind)⟩) (fun q => ⟨Or.inl rfl, h0 (by grind)⟩)
theorem m_draws {nt w : Nat} {A : kFn} {c : Int32} {σ : kS} {Q : kS → Prop} (hO : sOk nt A) (hR : mR A σ) (hw : w < sWorks A) (h : ∀ σ' : kS, mR (sDrawFrom A w c) σ' → mO σ σ' → Q σ') : wX5_draws (nI w) c σ Q := by
  unfold sDrawFrom at h
  refine m_isCell (fun q => ⟨fun z => absurd z (by decide), fun _ => ?_⟩) (fun q => ⟨fun _ => ?_, fun z => absurd rfl z⟩)
  · rw [if_neg (by grind), if_neg (by grind)] at h
    obtain ⟨n, hn, rfl⟩ := nI_of2 (x := c) (M := 11) (n := 11) (by decide) (by grind) (by grind)
    rw [k_cl (by omega)] at h
    rw [n_32, k_cl (by omega)]
    refine ⟨k_idx (by omega) (by decide), m_drawsOf hO hR hw (by omega) ⟨k_idx (by omega) (by decide), fun s5 e5 => ?_⟩⟩
    rw [(hR.1 n (by omega)).2.2] at e5
    exact h s5 (by rw [e5]; exact k_kset4 hR) (by rw [e5]; exact mO.set4)
  · by_cases z : c < 0
    · rw [if_pos z] at h
      exact h σ hR mO.rf
    · rw [if_neg z, if_pos (by grind)] at h
      exact h σ hR mO.rf
theorem m_costsOf {nt w t : Nat} {V : Nat → (Nat → Int32) → Int32} {A : kFn} {σ : kS} {Q : Int32 → kS → Prop} (hO : sOk nt A) (hR : mR A σ) (hV : mTx (σ.1 1) (σ.1 2) t V) (ht : A 0 12 = nI t) (hw : w < sWorks A) (h : ∀ σ' : kS, mR A σ' → mO σ σ' → Q (sCost V A w) σ') : wX5_costsOf (nI w) σ Q := by
  obtain ⟨h6, hn⟩ := hO.works
  obtain ⟨r1, r2, r3, r4⟩ := hR.2.2 w hw
  obtain ⟨p, hp, ep⟩ := (hO.2.2.2.2 w hw).2.2.1
  unfold wX5_costsOf
  rw [n_31, n_3, k_cl (by omega), k_cl (by omega), k_cl (by omega), r1, r2, r3, ep]
  refine ⟨k_idx (by omega) (by decide), fun x1 e1 => ⟨k_idx (by omega) (by decide), fun x2 e2 => ⟨k_idx (by omega) (by decide), ?_⟩⟩⟩
  subst e1 e2
  refine m_says (part := 2) hR hp (by decide) hV ht (fun s3 r3' o3 => ?_)
  have h := h s3 r3' o3
  unfold sCost at h
  rw [show (A 6 w).toNatClampNeg = p by rw [ep]; exact k_cl (by omega)] at h
  refine ⟨fun q1 => ⟨fun q3 => ⟨fun q2 => ⟨fun q4 => ?_, fun q4 => ?_⟩, fun q2 => ?_⟩, fun q3 => ?_⟩, fun q1 => ?_⟩
  · rw [if_neg q1, if_neg q2, if_neg q3, if_neg q4] at h
    exact h
  · rw [q4, if_neg (by decide), if_neg (by decide), if_neg (by decide), if_pos rfl] at h
    exact h
  · rw [q2, if_neg (by decide), if_pos rfl] at h
    exact h
  · rw [q3, if_neg (by decide), if_neg (by decide), if_pos rfl] at h
    exact h
  · rw [if_pos q1] at h
    exact h
theorem m_tx {σ σ' : kS} {t : Nat} {V : Nat → (Nat → Int32) → Int32} (h : mTx (σ.1 1) (σ.1 2) t V) (ho : mO σ σ') : mTx (σ'.1 1) (σ'.1 2) t V := by
  rw [ho.1 1 (by decide) (by decide), ho.1 2 (by decide) (by decide)]
  exact h
theorem sMin_neg {nt c : Nat} {A : kFn} {f : Int32} (h : sOk nt A) (hc : c < 12) (hf : 0 ≤ f ∧ f ≤ A 3 c) : sPour A c (-f) = fset A 3 c (A 3 c - f) := by
  have hw := (h.1 c hc).2.2
  unfold sPour
  generalize A 3 c = w at hw hf ⊢
  have e : (if w + -f < 999 then w + -f else 999) = w - f := by split <;> grind
  rw [e]
