/-! the two programs side by side: low -/
def sLow (f : Nat → Int32) (k : Int32) : Nat → Int32
  | 0 => -1
  | r + 1 => if f r < k then sLow f k r else nI r
theorem sOk.set8 {nt : Nat} {A : kFn} {v : Int32} (h : sOk nt A) (hv : 0 ≤ v ∧ v ≤ 99) : sOk nt (fset A 0 8 v) := by
  obtain ⟨a, b, c, d, e⟩ := h
  have hw : sWorks (fset A 0 8 v) = sWorks A := by
    unfold sWorks
    rw [fset_ne (by decide)]
  refine ⟨a, ?_, c, d, fun w hw2 => ?_⟩
  · rw [fset_at]
    exact hv
  · rw [hw] at hw2
    exact e w hw2
theorem k_river {A : kFn} {σ : kS} {v : Int32} (h : mR A σ) : mR (fset A 0 8 v) (kset σ 0 7 v) := by
  have hw : sWorks (fset A 0 8 v) = sWorks A := by
    unfold sWorks
    rw [fset_ne (by decide)]
  obtain ⟨a, ⟨b1, b2, b3, b4, b5⟩, d⟩ := h
  refine ⟨fun x hx => ?_, ⟨?_, ?_, ?_, ?_, ?_⟩, fun w hw2 => ?_⟩
  · rw [kset_off (by decide)]
    exact a x hx
  · rw [kset_at]
    rfl
  · rw [kset_ne (by decide)]; exact b2
  · rw [kset_ne (by decide)]; exact b3
  · rw [kset_ne (by decide)]; exact b4
  · rw [kset_ne (by decide)]; exact b5
  · rw [kset_off (by decide), kset_off (by decide)]
    rw [hw] at hw2
    exact d w hw2
theorem kset_kset {σ : kS} {p i : Nat} {v x : Int32} : kset (kset σ p i v) p i x = kset σ p i x := by
  unfold kset kput
  refine Prod.ext ?_ rfl
  funext q
  by_cases h : q = p
  · subst h
    funext j
    by_cases h2 : j = i
    · simp [upd, h2]
    · simp [upd, h2]
  · simp [h]
theorem mU_r {σm s s9 : kS} {x : Int32} (h : mU σm (kset s 0 7 (σm.1 0 7))) (h2 : mU (kset s 0 7 x) s9) : mU σm (kset s9 0 7 (σm.1 0 7)) := by
  refine ⟨fun p p0 p4 p7 p8 p9 => ?_, fun k k1 k2 k3 => ?_, fun j hj => ?_⟩
  · rw [kset_off p0, h2.1 p p0 p4 p7 p8 p9, kset_off p0]
    have := h.1 p p0 p4 p7 p8 p9
    rw [kset_off p0] at this
    exact this
  · by_cases e : k = 7
    · subst e
      rw [kset_at]
    · rw [kset_ne e, h2.2.1 k k1 k2 k3, kset_ne e]
      have := h.2.1 k k1 k2 k3
      rw [kset_ne e] at this
      exact this
  · rw [kset_off (by decide), h2.2.2 j hj, kset_off (by decide)]
    have := h.2.2 j hj
    rw [kset_off (by decide)] at this
    exact this
theorem k_m1' (r : Nat) : nI r + (-1 : Int32) = nI r - 1 := by grind
theorem x_lowL {tx : List kTxt} {n : Nat} {k : Int32} {σx : kS} {Q : Int32 → kS → Prop} (hn : n ≤ 30) (hE : xE tx σx) (hO : sOk tx.length (fx 3 σx)) (h : ∀ s : kS, xO1 σx s → Q (sLow (fun r => sPop (sDry (sRun (sW tx) false 0 n (fset (nf (fx 3 σx)) 0 8 (nI r))))) k 100) s) : wX4_low_24 tx Q (nI n) k (99 : Int32) σx := by
  intro P hP
  suffices key : ∀ m : Nat, m ≤ 100 → ∀ s : kS, xO1 σx s → sLow (fun r => sPop (sDry (sRun (sW tx) false 0 n (fset (nf (fx 3 σx)) 0 8 (nI r))))) k m = sLow (fun r => sPop (sDry (sRun (sW tx) false 0 n (fset (nf (fx 3 σx)) 0 8 (nI r))))) k 100 → P s (nI m - 1) from key 100 (Nat.le_refl _) σx xO1.rf rfl
  intro m
  induction m with
  | zero =>
    intro _ s o e
    refine hP _ _ ⟨fun _ => ?_, fun q => absurd (by decide) q⟩
    have := h s o
    rw [← e] at this
    exact this
  | succ r ih =>
    intro hm s o e
    rw [nI_pred]
    refine hP _ _ ⟨fun q => absurd q (k_nn (by omega)), fun _ => x_think (fun s6 f6 o6 s7 e7 => ?_)⟩
    have now : fx 3 s = fx 3 σx := xO1_fx o
    have f7 : nf (fx 12 s7) = fset (nf (fx 3 σx)) 0 8 (nI r) := by
      rw [e7, fx_set0, ← nf_set (by decide), f6, now]
    have ok7 : sOk tx.length (fset (nf (fx 3 σx)) 0 8 (nI r)) := (nf_ok.mpr hO).set8 ⟨nI_pos' (by omega), nI_le (b := 99) (by omega) (by decide)⟩
    have ok7b : sOk tx.length (fx 12 s7) := nf_ok.mp (by rw [f7]; exact ok7)
    have o7 : xO 12 s6 s7 := by rw [e7]; exact xO.set0
    have o67 := o.tr (o6.tr o7).o1
    refine x_behind (by omega) (hE.o1 o67) ok7b (fun s8 o8 => x_pop ?_)
    have ev : sDry (sRun (sW tx) false 0 n (fx 12 s7)) = sDry (sRun (sW tx) false 0 n (fset (nf (fx 3 σx)) 0 8 (nI r))) := by
      rw [← f7, (sRun_ok ok7b n).2, nf_dry]
    rw [ev]
    refine ⟨fun q x ex => ?_, fun q => ?_⟩
    · rw [ex, show nI r + (-1 : Int32) = nI r - 1 from k_m1' r]
      refine ih (by omega) s8 (o67.tr o8.o1) ?_
      rw [← e]
      exact (if_pos q).symm
    · have := h s8 (o67.tr o8.o1)
      rw [← e] at this
      rw [show sLow (fun r => sPop (sDry (sRun (sW tx) false 0 n (fset (nf (fx 3 σx)) 0 8 (nI r))))) k (r + 1) = nI r from if_neg q] at this
      exact this
