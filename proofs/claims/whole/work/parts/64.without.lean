/-! the two programs side by side: without a WORK; floods -/
theorem sOk.set7 {nt w : Nat} {A : kFn} (h : sOk nt A) : sOk nt (fset A 7 w 0) := by
  obtain ⟨a, b, c, d, e⟩ := h
  refine ⟨a, b, c, d, fun v hv => ?_⟩
  rw [sWorks_set (by decide)] at hv
  obtain ⟨e1, e2, e3, e4⟩ := e v hv
  refine ⟨e1, e2, e3, ?_⟩
  by_cases q : v = w
  · subst q
    rw [fset_at]
    exact Or.inl rfl
  · rw [fset_ne q]
    exact e4
theorem x_without {tx : List kTxt} {n w : Nat} {σ : kS} {Q : Int32 → kS → Prop} (hn : n ≤ 30) (hw : w < 6) (hE : xE tx σ) (hO : sOk tx.length (fx 3 σ)) (h : ∀ s : kS, xO1 σ s → Q (sDry (sRun (sW tx) false 0 n (fset (nf (fx 3 σ)) 7 w 0))) s) : wX4_dryWithout tx (nI w) (nI n) σ Q := by
  refine x_think (fun s6 f6 o6 => ?_)
  have put : ∀ R : kS → Prop, (∀ s7 : kS, s7 = kset s6 19 w 0 → R s7) → wX0_put 12 (7 : Int32) (nI w) (0 : Int32) s6 R := by
    intro R hr
    refine ⟨fun q => absurd q (by decide), fun q => absurd q (by decide), fun q => absurd q (by decide), fun _ _ _ => ?_⟩
    refine ⟨fun q => absurd q (by decide), fun q => absurd q (by decide), fun q => absurd q (by decide), fun q => absurd q (by decide), fun q => absurd q (by decide), fun _ => ?_, fun _ _ _ _ _ q => absurd rfl q⟩
    refine ⟨fun q => absurd q (k_nn (by omega)), fun _ => ⟨fun q => absurd q (nI_ge (b := 6) hw (by decide)), fun _ => ⟨k_idx hw (by decide), fun s e => hr s ?_⟩⟩⟩
    rw [e, k_cl (by omega)]
  refine put _ (fun s7 e7 => ?_)
  have f7 : nf (fx 12 s7) = fset (nf (fx 3 σ)) 7 w 0 := by
    rw [e7, show (19 : Nat) = 12 + 7 from rfl, fx_set (by omega), ← nf_set (kUse_w (by decide) (by decide) hw), f6]
  have ok7 : sOk tx.length (fset (nf (fx 3 σ)) 7 w 0) := (nf_ok.mpr hO).set7
  have ok7b : sOk tx.length (fx 12 s7) := nf_ok.mp (by rw [f7]; exact ok7)
  have o7 : xO 12 s6 s7 := by rw [e7]; exact xO.set (b := 12) (r := 7) (by omega)
  refine x_behind (by omega) ((hE.o o6 (by decide)).o o7 (by decide)) ok7b (fun s8 o8 => ?_)
  have ev : sDry (sRun (sW tx) false 0 n (fx 12 s7)) = sDry (sRun (sW tx) false 0 n (fset (nf (fx 3 σ)) 7 w 0)) := by
    rw [← f7, (sRun_ok ok7b n).2, nf_dry]
  rw [ev]
  exact h s8 (o6.tr (o7.tr o8)).o1
theorem x_with {tx : List kTxt} {n : Nat} {σ : kS} {Q : Int32 → kS → Prop} (hn : n ≤ 30) (hE : xE tx σ) (hO : sOk tx.length (fx 3 σ)) (h : ∀ s : kS, xO1 σ s → Q (sDry (sRun (sW tx) false 0 n (nf (fx 3 σ)))) s) : wX4_think σ (fun s => wX4_dryBehind tx (nI n) s Q) := by
  refine x_think (fun s6 f6 o6 => ?_)
  have ok : sOk tx.length (fx 12 s6) := nf_ok.mp (by rw [f6]; exact nf_ok.mpr hO)
  refine x_behind (by omega) (hE.o o6 (by decide)) ok (fun s8 o8 => ?_)
  have ev : sDry (sRun (sW tx) false 0 n (fx 12 s6)) = sDry (sRun (sW tx) false 0 n (nf (fx 3 σ))) := by
    rw [← f6, (sRun_ok ok n).2, nf_dry]
  rw [ev]
  exact h s8 (o6.tr o8).o1
theorem m_with {nt n : Nat} {W : Nat → Nat → (Nat → Int32) → Int32} {A : kFn} {σ : kS} {Q : Int32 → kS → Prop} (hn : n ≤ 30) (hE : mE W nt σ) (hO : sOk nt A) (hR : mR A σ) (h : ∀ s : kS, mU σ s → Q (sDry (sRun W false 0 n A)) s) : wX5_dryBehind (nI n) σ Q :=
  m_runs (d := false) hn rfl hE hO hR (fun s u _ e33 _ _ => by
    rw [e33]
    exact h s u)
theorem k_going {A : kFn} {σ : kS} {w : Nat} {v : Int32} (h : mR A σ) : mR (fset A 7 w v) (kset σ 6 (3 * w + 2) v) := by
  obtain ⟨a, b, d⟩ := h
  refine ⟨fun x hx => ?_, ?_, fun y hy => ?_⟩
  · rw [kset_off (by decide)]
    exact a x hx
  · rw [kset_off (by decide)]
    exact b
  · rw [sWorks_set (by decide)] at hy
    obtain ⟨e1, e2, e3, e4⟩ := d y hy
    rw [kset_off (by decide)]
    refine ⟨e1, ?_, ?_, ?_⟩
    · rw [kset_ne (by omega)]; exact e2
    · rw [kset_ne (by omega)]; exact e3
    · by_cases q : y = w
      · subst q
        rw [kset_at, fset_at]
      · rw [kset_ne (by omega), fset_ne q]
        exact e4
theorem m_without {nt n w : Nat} {W : Nat → Nat → (Nat → Int32) → Int32} {A : kFn} {σ : kS} {Q : Int32 → kS → Prop} (hn : n ≤ 30) (hw : w < 6) (hE : mE W nt σ) (hO : sOk nt A) (hR : mR A σ) (h : ∀ s : kS, mU σ s → Q (sDry (sRun W false 0 n (fset A 7 w 0))) s) : wX5_dryWithout (nI w) (nI n) σ Q := by
  unfold wX5_dryWithout
  rw [n_32, k_cl (by omega)]
  refine ⟨k_idx (by omega) (by decide), fun x1 e1 => ⟨k_idx (by omega) (by decide), fun s2 e2 => ?_⟩⟩
  have E2 : mE W nt s2 := by
    refine ⟨hE.1, fun t ht => ?_⟩
    rw [e2, kset_off (by decide), kset_off (by decide)]
    exact hE.2 t ht
  refine m_with hn E2 hO.set7 (by rw [e2]; exact k_going hR) (fun s3 u3 => ⟨k_idx (by omega) (by decide), fun s5 e5 => h s5 ?_⟩)
  rw [e2] at u3
  refine ⟨fun p p0 p4 p7 p8 p9 => ?_, fun k k1 k2 k3 => ?_, fun j hj => ?_⟩
  · by_cases q : p = 6
    · subst q
      have h6 := u3.1 6 (by decide) (by decide) (by decide) (by decide) (by decide)
      funext j
      by_cases qj : j = 3 * w + 2
      · subst qj
        rw [e5, kset_at]
        exact e1
      · rw [e5, kset_ne qj, h6, kset_ne qj]
    · rw [e5, kset_off q, u3.1 p p0 p4 p7 p8 p9, kset_off q]
  · rw [e5, kset_off (by decide), u3.2.1 k k1 k2 k3, kset_off (by decide)]
  · rw [e5, kset_off (by decide), u3.2.2 j hj, kset_off (by decide)]
