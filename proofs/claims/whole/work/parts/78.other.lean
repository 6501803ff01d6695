/-! the two programs side by side: tells, its loops -/
def sOther (D f : Nat → Int32) : Nat → Nat → Int32
  | _, 0 => -1
  | i, r + 1 => if D i = f i then sOther D f (i + 1) r else nI i
def sBits (g : Nat → Int32) : Nat → Int32
  | 0 => 0
  | v + 1 => if g v = -1 then sBits g v ||| kshl 1 (nI v) else sBits g v
def sNoG (g : Nat → Int32) : Nat → Int32
  | 0 => 0
  | v + 1 => if g v = -1 then sNoG g v + 1 else sNoG g v
def sHi (g : Nat → Int32) : Nat → Int32
  | 0 => -1
  | v + 1 => if g v = -1 then nI v else sHi g v
theorem fset_fset {A : kFn} {r i : Nat} {x y : Int32} : fset (fset A r i x) r i y = fset A r i y := by
  funext p j
  unfold fset
  by_cases h : p = r
  · subst h
    by_cases h2 : j = i
    · simp [h2]
    · simp [h2]
  · simp [h]
theorem fset_self {A : kFn} {r i : Nat} : fset A r i (A r i) = A := by
  funext p j
  unfold fset
  by_cases h : p = r
  · subst h
    by_cases h2 : j = i
    · simp [h2]
    · simp [h2]
  · simp [h]
def sG (W : Nat → Nat → (Nat → Int32) → Int32) (A : kFn) (what of n : Nat) (f : Nat → Int32) (v : Nat) : Int32 := sOther (sDrys W false 0 (fset A (kSl what of).1 (kSl what of).2 (nI v))) f 0 n
theorem x_other {tx : List kTxt} {s n what of : Nat} {lof v : Int32} {f : Nat → Int32} {σ : kS} {Q : Int32 → kS → Prop} (hs : s < 4) (hn : n ≤ 30) (e40 : σ.1 40 s = nI n) (hf : ∀ i : Nat, i < n → σ.1 (35 + s) i = f i) (hw : what ≤ 9) (hl : 2 ≤ what → what ≤ 8 → lof = nI of) (hc : 2 ≤ what → what ≤ 4 → of < 12) (hk : 5 ≤ what → what ≤ 8 → of < 6) (hE : xE tx σ) (hO : sOk tx.length (fx 3 σ)) (hok : sOk tx.length (fset (nf (fx 3 σ)) (kSl what of).1 (kSl what of).2 v))
    (h : ∀ u : kS, xO1 σ u → Q (sOther (sDrys (sW tx) false 0 (fset (nf (fx 3 σ)) (kSl what of).1 (kSl what of).2 v)) f 0 n) u) : wX4_firstOther tx (nI s) (nI (kSw what)) lof v σ Q := by
  refine x_think (fun s6 f6 o6 => x_put hw hl hc hk (fun s7 f7 o7 => x_size hs ?_))
  have o67 := o6.tr o7
  rw [o67.1 40 (by decide), e40]
  have n7 : nf (fx 12 s7) = fset (nf (fx 3 σ)) (kSl what of).1 (kSl what of).2 v := by rw [f7, ← nf_set (kUse_sl hw hc hk), f6]
  have ok7 : sOk tx.length (fx 12 s7) := nf_ok.mp (by rw [n7]; exact hok)
  intro P hP
  suffices key : ∀ r i : Nat, i + r = n → sOther (sDrys (sW tx) false 0 (nf (fx 12 s7))) f i r = sOther (sDrys (sW tx) false 0 (nf (fx 12 s7))) f 0 n → ∀ u : kS, fx 12 u = sRun (sW tx) false 0 i (fx 12 s7) → xO 12 σ u → P u (nI i) from key n 0 (by omega) rfl s7 rfl o67
  rw [← n7] at h
  intro r
  induction r with
  | zero =>
    intro i hi e u fu ou
    have ei : i = n := by omega
    subst ei
    refine hP _ _ ⟨fun _ => ?_, fun q => absurd (Int32.le_refl _) q⟩
    have := h u ou.o1
    rw [← e] at this
    exact this
  | succ r ih =>
    intro i hi e u fu ou
    refine hP _ _ ⟨fun q => absurd q (nI_ge (by omega) (by omega)), fun _ => x_live (hE.o ou (by decide)) (by rw [fu]; exact (sRun_ok ok7 i).1) (fun s8 f8 o8 => x_dryCells ?_)⟩
    have ou8 := ou.tr o8
    have f8' : fx 12 s8 = sRun (sW tx) false 0 (i + 1) (fx 12 s7) := by rw [f8, fu, sRun_f]
    have ed : sDry (fx 12 s8) = sDrys (sW tx) false 0 (nf (fx 12 s7)) i := by
      unfold sDrys
      rw [f8', (sRun_ok ok7 (i + 1)).2, nf_dry]
    rw [ed]
    refine x_at (n := n) hs (by omega) (by rw [ou8.1 40 (by decide)]; exact e40) (by omega) ?_
    rw [ou8.1 (35 + s) (by omega), hf i (by omega)]
    refine ⟨fun q x ex => ?_, fun q => ?_⟩
    · rw [ex, k_n1]
      refine ih (i + 1) (by omega) ?_ s8 f8' ou8
      rw [← e]
      exact (if_pos q).symm
    · have fin := h s8 ou8.o1
      rw [← e] at fin
      rw [show sOther (sDrys (sW tx) false 0 (nf (fx 12 s7))) f i (r + 1) = nI i from if_neg q] at fin
      exact fin
theorem x_fitting {tx : List kTxt} {s n what of cnt : Nat} {lof : Int32} {f : Nat → Int32} {σ : kS} {Q : Int32 → kS → Prop} (hs : s < 4) (hn : n ≤ 30) (e40 : σ.1 40 s = nI n) (hf : ∀ i : Nat, i < n → σ.1 (35 + s) i = f i) (hw : what ≤ 9) (hl : 2 ≤ what → what ≤ 8 → lof = nI of) (hc : 2 ≤ what → what ≤ 4 → of < 12) (hk : 5 ≤ what → what ≤ 8 → of < 6) (hE : xE tx σ) (hO : sOk tx.length (fx 3 σ)) (hcnt : cnt ≤ 100) (hok : ∀ v : Nat, v < cnt → sOk tx.length (fset (nf (fx 3 σ)) (kSl what of).1 (kSl what of).2 (nI v)))
    (h : ∀ u : kS, xO1 σ u → Q (sBits (sG (sW tx) (nf (fx 3 σ)) what of n f) cnt) u) : wX4_fitting tx (nI s) (nI (kSw what)) lof (nI cnt) σ Q := by
  intro P hP
  suffices key : ∀ r v : Nat, v + r = cnt → ∀ u : kS, xO1 σ u → P u (sBits (sG (sW tx) (nf (fx 3 σ)) what of n f) v) (nI v) from key cnt 0 (by omega) σ xO1.rf
  intro r
  induction r with
  | zero =>
    intro v hv u o
    have e : v = cnt := by omega
    subst e
    exact hP _ _ _ ⟨fun _ => h u o, fun q => absurd (Int32.le_refl _) q⟩
  | succ r ih =>
    intro v hv u o
    have now : fx 3 u = fx 3 σ := xO1_fx o
    have hx := x_other (tx := tx) (s := s) (n := n) (what := what) (of := of) (lof := lof) (v := nI v) (f := f) (σ := u) (Q := fun r3 s2 => (r3 ≠ (-1 : Int32) → ∀ x5 : Int32, x5 = nI v + (1 : Int32) → P s2 (sBits (sG (sW tx) (nf (fx 3 σ)) what of n f) v) x5) ∧ (r3 = (-1 : Int32) → ∀ x6 : Int32, x6 = sBits (sG (sW tx) (nf (fx 3 σ)) what of n f) v ||| (kshl (1 : Int32) (nI v)) → ∀ x7 : Int32, x7 = nI v + (1 : Int32) → P s2 x6 x7)) hs hn (by rw [o.1 40 (by decide) (by decide)]; exact e40) (fun i hi => by rw [o.1 (35 + s) (by omega) (by omega)]; exact hf i hi) hw hl hc hk (hE.o1 o) (by rw [now]; exact hO) (by rw [now]; exact hok v (by omega)) (fun u2 o2 => ?_)
    · exact hP _ _ _ ⟨fun q => absurd q (nI_ge (by omega) (by omega)), fun _ => hx⟩
    · rw [now]
      have nx := ih (v + 1) (by omega) u2 (o.tr o2)
      refine ⟨fun q x ex => ?_, fun q x ex y ey => ?_⟩
      · rw [show sBits (sG (sW tx) (nf (fx 3 σ)) what of n f) (v + 1) = sBits (sG (sW tx) (nf (fx 3 σ)) what of n f) v from if_neg q] at nx
        rw [ex, k_n1]
        exact nx
      · rw [show sBits (sG (sW tx) (nf (fx 3 σ)) what of n f) (v + 1) = sBits (sG (sW tx) (nf (fx 3 σ)) what of n f) v ||| kshl 1 (nI v) from if_pos q] at nx
        rw [ex, ey, k_n1]
        exact nx
theorem x_fitRiv {tx : List kTxt} {s n : Nat} {f : Nat → Int32} {σ : kS} {Q : Int32 → kS → Prop} (hs : s < 4) (hn : n ≤ 30) (e40 : σ.1 40 s = nI n) (hf : ∀ i : Nat, i < n → σ.1 (35 + s) i = f i) (hE : xE tx σ) (hO : sOk tx.length (fx 3 σ)) (hok : ∀ v : Nat, v < 100 → sOk tx.length (fset (nf (fx 3 σ)) 0 8 (nI v)))
    (h : ∀ u : kS, xO1 σ u → Q (sNoG (sG (sW tx) (nf (fx 3 σ)) 0 0 n f) 100) u) : wX4_fittingRivers tx (nI s) σ Q := by
  intro P hP
  suffices key : ∀ r v : Nat, v + r = 100 → ∀ u : kS, xO1 σ u → P u (sNoG (sG (sW tx) (nf (fx 3 σ)) 0 0 n f) v) (nI v) from key 100 0 (by omega) σ xO1.rf
  intro r
  induction r with
  | zero =>
    intro v hv u o
    have e : v = 100 := by omega
    subst e
    exact hP _ _ _ ⟨fun _ => h u o, fun q => absurd (k_at rfl) q⟩
  | succ r ih =>
    intro v hv u o
    have now : fx 3 u = fx 3 σ := xO1_fx o
    have hx := x_other (tx := tx) (s := s) (n := n) (what := 0) (of := 0) (lof := 0) (v := nI v) (f := f) (σ := u) (Q := fun r3 s2 => (r3 ≠ (-1 : Int32) → ∀ x5 : Int32, x5 = nI v + (1 : Int32) → P s2 (sNoG (sG (sW tx) (nf (fx 3 σ)) 0 0 n f) v) x5) ∧ (r3 = (-1 : Int32) → ∀ x6 : Int32, x6 = sNoG (sG (sW tx) (nf (fx 3 σ)) 0 0 n f) v + (1 : Int32) → ∀ x7 : Int32, x7 = nI v + (1 : Int32) → P s2 x6 x7)) hs hn (by rw [o.1 40 (by decide) (by decide)]; exact e40) (fun i hi => by rw [o.1 (35 + s) (by omega) (by omega)]; exact hf i hi) (by decide) (fun z => absurd z (by decide)) (fun z => absurd z (by decide)) (fun z => absurd z (by decide)) (hE.o1 o) (by rw [now]; exact hO) (by rw [now]; exact hok v (by omega)) (fun u2 o2 => ?_)
    · exact hP _ _ _ ⟨fun q => absurd q (k_ge (N := 100) (by omega) (by decide) rfl), fun _ => hx⟩
    · rw [now]
      have nx := ih (v + 1) (by omega) u2 (o.tr o2)
      refine ⟨fun q x ex => ?_, fun q x ex y ey => ?_⟩
      · rw [show sNoG (sG (sW tx) (nf (fx 3 σ)) 0 0 n f) (v + 1) = sNoG (sG (sW tx) (nf (fx 3 σ)) 0 0 n f) v from if_neg q] at nx
        rw [ex, k_n1]
        exact nx
      · rw [show sNoG (sG (sW tx) (nf (fx 3 σ)) 0 0 n f) (v + 1) = sNoG (sG (sW tx) (nf (fx 3 σ)) 0 0 n f) v + 1 from if_pos q] at nx
        rw [ex, ey, k_n1]
        exact nx
theorem x_hiRiv {tx : List kTxt} {s n : Nat} {f : Nat → Int32} {σ : kS} {Q : Int32 → kS → Prop} (hs : s < 4) (hn : n ≤ 30) (e40 : σ.1 40 s = nI n) (hf : ∀ i : Nat, i < n → σ.1 (35 + s) i = f i) (hE : xE tx σ) (hO : sOk tx.length (fx 3 σ)) (hok : ∀ v : Nat, v < 100 → sOk tx.length (fset (nf (fx 3 σ)) 0 8 (nI v)))
    (h : ∀ u : kS, xO1 σ u → Q (sHi (sG (sW tx) (nf (fx 3 σ)) 0 0 n f) 100) u) : wX4_highestFittingRiver tx (nI s) σ Q := by
  intro P hP
  suffices key : ∀ m : Nat, m ≤ 100 → sHi (sG (sW tx) (nf (fx 3 σ)) 0 0 n f) m = sHi (sG (sW tx) (nf (fx 3 σ)) 0 0 n f) 100 → ∀ u : kS, xO1 σ u → P u (nI m - 1) from key 100 (Nat.le_refl _) rfl σ xO1.rf
  intro m
  induction m with
  | zero =>
    intro _ e u o
    refine hP _ _ ⟨fun _ => ?_, fun q => absurd (by decide) q⟩
    have := h u o
    rw [← e] at this
    exact this
  | succ v ih =>
    intro hm e u o
    have now : fx 3 u = fx 3 σ := xO1_fx o
    rw [nI_pred]
    have hx := x_other (tx := tx) (s := s) (n := n) (what := 0) (of := 0) (lof := 0) (v := nI v) (f := f) (σ := u) (Q := fun r3 s2 => (r3 ≠ (-1 : Int32) → ∀ x5 : Int32, x5 = nI v + (-1 : Int32) → P s2 x5) ∧ (r3 = (-1 : Int32) → Q (nI v) s2)) hs hn (by rw [o.1 40 (by decide) (by decide)]; exact e40) (fun i hi => by rw [o.1 (35 + s) (by omega) (by omega)]; exact hf i hi) (by decide) (fun z => absurd z (by decide)) (fun z => absurd z (by decide)) (fun z => absurd z (by decide)) (hE.o1 o) (by rw [now]; exact hO) (by rw [now]; exact hok v (by omega)) (fun u2 o2 => ?_)
    · exact hP _ _ ⟨fun q => absurd q (k_nn (by omega)), fun _ => hx⟩
    · rw [now]
      refine ⟨fun q x ex => ?_, fun q => ?_⟩
      · rw [ex, k_m1' v]
        refine ih (by omega) ?_ u2 (o.tr o2)
        rw [← e]
        exact (if_neg q).symm
      · have fin := h u2 (o.tr o2)
        rw [← e] at fin
        rw [show sHi (sG (sW tx) (nf (fx 3 σ)) 0 0 n f) (v + 1) = nI v from if_pos q] at fin
        exact fin
theorem m_other {nt s n : Nat} {W : Nat → Nat → (Nat → Int32) → Int32} {B : kFn} {f : Nat → Int32} {σ : kS} {Q : Int32 → kS → Prop} (hs : s < 4) (hn : n ≤ 30) (e14 : σ.1 14 s = nI n) (hf : ∀ i : Nat, i < n → σ.1 15 (40 * s + i) = f i) (hE : mE W nt σ) (hO : sOk nt B) (hR : mR B σ) (h : ∀ u : kS, mU σ u → Q (sOther (sDrys W false 0 B) f 0 n) u) : wX5_firstOther (nI s) σ Q := by
  refine ⟨k_idx hs (by decide), ?_⟩
  rw [k_cl (by omega), e14]
  refine m_runs (d := false) hn rfl hE hO hR (fun u o d _ _ _ => ?_)
  have u14 : u.1 14 s = nI n := by rw [o.1 14 (by decide) (by decide) (by decide) (by decide) (by decide)]; exact e14
  have u15 : u.1 15 = σ.1 15 := o.1 15 (by decide) (by decide) (by decide) (by decide) (by decide)
  intro P hP
  suffices key : ∀ r i : Nat, i + r = n → sOther (sDrys W false 0 B) f i r = sOther (sDrys W false 0 B) f 0 n → P (nI i) from key n 0 (by omega) rfl
  intro r
  induction r with
  | zero =>
    intro i hi e
    have ei : i = n := by omega
    subst ei
    refine hP _ ⟨k_idx hs (by decide), ?_⟩
    rw [k_cl (by omega), u14]
    refine ⟨fun _ => ?_, fun q => absurd (Int32.le_refl _) q⟩
    have := h u o
    rw [← e] at this
    exact this
  | succ r ih =>
    intro i hi e
    refine hP _ ⟨k_idx hs (by decide), ?_⟩
    rw [k_cl (by omega), u14, n_40, k_cl (by omega), k_cl (by omega), u15, hf i (by omega), d i (by omega)]
    refine ⟨fun q => absurd q (nI_ge (by omega) (by omega)), fun _ => ⟨k_idx (by omega) (by decide), k_idx (by omega) (by decide), fun q x ex => ?_, fun q => ?_⟩⟩
    · rw [ex, k_n1]
      refine ih (i + 1) (by omega) ?_
      rw [← e]
      exact (if_pos q).symm
    · have fin := h u o
      rw [← e] at fin
      rw [show sOther (sDrys W false 0 B) f i (r + 1) = nI i from if_neg q] at fin
      exact fin
theorem mV0_lays {what of : Nat} {v : Int32} {s : kS} (hw : what ≤ 9) : mV 0 s (kset s (kSm what of).1 (kSm what of).2 v) := by
  have hkm : (kSm what of).1 = 0 ∧ ((kSm what of).2 = 7 ∨ (kSm what of).2 = 8 ∨ (kSm what of).2 = 4) ∨ (kSm what of).1 = 4 ∨ (kSm what of).1 = 6 ∨ (kSm what of).1 = 5 := by
    rcases w_cases hw with e | e | e | e | e | e | e | e | e | e <;> subst e
    · exact Or.inl ⟨rfl, Or.inl rfl⟩
    · exact Or.inl ⟨rfl, Or.inr (Or.inl rfl)⟩
    · exact Or.inr (Or.inl rfl)
    · exact Or.inr (Or.inl rfl)
    · exact Or.inr (Or.inl rfl)
    · exact Or.inr (Or.inr (Or.inl rfl))
    · exact Or.inr (Or.inr (Or.inl rfl))
    · exact Or.inr (Or.inr (Or.inl rfl))
    · exact Or.inr (Or.inr (Or.inr rfl))
    · exact Or.inl ⟨rfl, Or.inr (Or.inr rfl)⟩
  refine ⟨fun p p0 p4 p5 p6 _ _ _ => kset_off (by omega), fun k k4 k7 k8 k9 k13 _ _ _ => ?_, fun j hj => absurd hj (by omega)⟩
  rcases hkm with ⟨z1, z2⟩ | z | z | z
  · rw [z1]
    exact kset_ne (by omega)
  · rw [z, kset_off (by decide)]
  · rw [z, kset_off (by decide)]
  · rw [z, kset_off (by decide)]
theorem m_tellsL {nt s n what of cnt : Nat} {W : Nat → Nat → (Nat → Int32) → Int32} {l2 lof was : Int32} {A : kFn} {f : Nat → Int32} {σm : kS} {Q : Int32 → kS → Prop} (hs : s < 4) (hn : n ≤ 30) (e14 : σm.1 14 s = nI n) (hf : ∀ i : Nat, i < n → σm.1 15 (40 * s + i) = f i) (hE : mE W nt σm) (hR : mR A σm) (hw : what ≤ 9) (hl : 2 ≤ what → what ≤ 8 → lof = nI of) (hc : 2 ≤ what → what ≤ 4 → of < 12) (hk : 5 ≤ what → what ≤ 8 → of < 6) (hc0 : 0 < cnt) (hcnt : cnt ≤ 100) (hok : ∀ v : Nat, v < cnt → sOk nt (fset A (kSl what of).1 (kSl what of).2 (nI v))) (hwas : was = A (kSl what of).1 (kSl what of).2)
    (h : ∀ u : kS, mR A u → mV 0 σm u → (l2 ≠ 2 → (l2 ≠ 3 → Q (if what = 0 then 0 else sBits (sG W A what of n f) cnt) u) ∧ (l2 = 3 → Q (sHi (sG W A what of n f) cnt) u)) ∧ (l2 = 2 → Q (sNoG (sG W A what of n f) cnt) u)) : wX5_tells_201 Q (nI s) l2 lof (nI what) was (nI (cnt - 1)) (0 : Int32) (0 : Int32) (-1 : Int32) (0 : Int32) σm := by
  intro P hP
  suffices key : ∀ r v : Nat, v + r = cnt → ∀ u : kS, (∃ x : Int32, mR (fset A (kSl what of).1 (kSl what of).2 x) u) → mV 0 σm u → P u (if what = 0 then 0 else sBits (sG W A what of n f) v) (sNoG (sG W A what of n f) v) (sHi (sG W A what of n f) v) (nI v) from by
    have := key cnt 0 (by omega) σm ⟨A (kSl what of).1 (kSl what of).2, by rw [fset_self]; exact hR⟩ mV.rf
    rw [show (if what = 0 then (0 : Int32) else sBits (sG W A what of n f) 0) = 0 by split <;> rfl] at this
    exact this
  intro r
  induction r with
  | zero =>
    intro v hv u ⟨x, ru⟩ o
    have e : v = cnt := by omega
    subst e
    refine hP _ _ _ _ _ ⟨fun _ => m_lays hw hl hc hk (fun s27 e27 => ?_), fun q => absurd (nI_lt (by omega) (by omega)) q⟩
    have r27 : mR A s27 := by
      have := mR_put (what := what) (of := of) (v := was) hw ru
      rw [fset_fset, hwas, fset_self] at this
      rw [e27, hwas]
      exact this
    refine h s27 r27 ?_
    rw [e27]
    exact o.tr (mV0_lays hw)
  | succ r ih =>
    intro v hv u ⟨x, ru⟩ o
    refine hP _ _ _ _ _ ⟨fun q => absurd q (nI_nlt (by omega) (by omega)), fun _ => m_lays hw hl hc hk (fun s30 e30 => ?_)⟩
    have r30 : mR (fset A (kSl what of).1 (kSl what of).2 (nI v)) s30 := by
      have := mR_put (what := what) (of := of) (v := nI v) hw ru
      rw [fset_fset] at this
      rw [e30]
      exact this
    have o30 : mV 0 σm s30 := by
      rw [e30]
      exact o.tr (mV0_lays hw)
    refine m_other (f := f) hs hn (by rw [o30.1 14 (by decide) (by decide) (by decide) (by decide) (by decide) (by decide) (by decide)]; exact e14) (fun i hi => by rw [o30.1 15 (by decide) (by decide) (by decide) (by decide) (by decide) (by decide) (by decide)]; exact hf i hi) (hE.v o30) (hok v (by omega)) r30 (fun s31 u31 => ?_)
    have nx := ih (v + 1) (by omega) s31 ⟨nI v, mU_R u31 r30⟩ (o30.tr u31.v)
    refine ⟨fun q x34 e34 => ?_, fun q => ?_⟩
    · rw [show sBits (sG W A what of n f) (v + 1) = sBits (sG W A what of n f) v from if_neg q, show sNoG (sG W A what of n f) (v + 1) = sNoG (sG W A what of n f) v from if_neg q, show sHi (sG W A what of n f) (v + 1) = sHi (sG W A what of n f) v from if_neg q] at nx
      rw [e34, k_n1]
      exact nx
    · rw [show sBits (sG W A what of n f) (v + 1) = sBits (sG W A what of n f) v ||| kshl 1 (nI v) from if_pos q, show sNoG (sG W A what of n f) (v + 1) = sNoG (sG W A what of n f) v + 1 from if_pos q, show sHi (sG W A what of n f) (v + 1) = nI v from if_pos q] at nx
      refine ⟨fun q4 x36 e36 x37 e37 x38 e38 => ?_, fun q4 x36 e36 x37 e37 x38 e38 => ?_⟩
      · have w0 : ¬ what = 0 := fun z => q4 (by rw [z]; rfl)
        rw [if_neg w0] at nx e36
        rw [e36, e37, e38, k_n1]
        exact nx
      · have w0 : what = 0 := (nI_eq (b := 0) (by omega) (by decide)).mp q4
        rw [if_pos w0] at nx e36
        rw [e36, e37, e38, k_n1]
        rw [show (0 : Int32) ||| 0 = 0 from rfl]
        exact nx
