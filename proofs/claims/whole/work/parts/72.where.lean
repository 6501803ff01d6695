/-! the two programs side by side: where -/
theorem kInv.re {tx : List kTxt} {σx σm σx' σm' : kS} (h : kInv tx σx σm) (hx : ∀ p : Nat, p ≠ 1 → (p < 3 ∨ 20 < p) → σx'.1 p = σx.1 p) (hm : ∀ p : Nat, p ≠ 0 → p ≠ 4 → p ≠ 5 → p ≠ 6 → p ≠ 7 → p ≠ 8 → p ≠ 9 → σm'.1 p = σm.1 p) (hm0 : ∀ k : Nat, k ≠ 4 → k ≠ 7 → k ≠ 8 → k ≠ 9 → k ≠ 13 → k ≠ 32 → k ≠ 33 → (k < 14 ∨ 28 < k) → σm'.1 0 k = σm.1 0 k) (hk : ∀ w : Nat, w < sWorks (fx 3 σx) → σm'.1 5 w = σm.1 5 w) (hO : sOk tx.length (fx 3 σx')) (hR : mR (nf (fx 3 σx')) σm') (hY : kYear (fx 3 σx')) (hW : sWorks (fx 3 σx) ≤ sWorks (fx 3 σx')) : kInv tx σx' σm' := by
  obtain ⟨a1, a2, a3, a4, a5, a6, a7, a8, a9⟩ := h
  have f21 : fx 21 σx' = fx 21 σx := fx_eq (fun r hr => hx _ (by omega) (by omega))
  have z : ∀ k : Nat, (k = 3 ∨ k = 6 ∨ 36 ≤ k) → σm'.1 0 k = σm.1 0 k := fun k hk => hm0 k (by omega) (by omega) (by omega) (by omega) (by omega) (by omega) (by omega) (by omega)
  have y : ∀ p : Nat, (p = 1 ∨ p = 2 ∨ p = 3 ∨ 10 ≤ p) → σm'.1 p = σm.1 p := fun p hp => hm p (by omega) (by omega) (by omega) (by omega) (by omega) (by omega) (by omega)
  refine ⟨⟨?_, a1.2⟩, ⟨a2.1, fun t ht => ?_⟩, ?_, hO, hR, hY, ?_, ?_, fun s hs => ?_⟩
  · rw [hx 0 (by decide) (by decide)]
    exact a1.1
  · rw [y 1 (by omega), y 2 (by omega)]
    exact a2.2 t ht
  · rw [z 3 (by omega)]
    exact a3
  · rcases a7 with ⟨b1, b2⟩ | ⟨b1, b2, b3, b4, b5, b6, b7⟩
    · refine Or.inl ⟨?_, ?_⟩
      · rw [hx 0 (by decide) (by decide)]; exact b1
      · rw [z 36 (by omega)]; exact b2
    · refine Or.inr ⟨?_, ?_, ?_, ?_, ?_⟩
      · rw [hx 0 (by decide) (by decide)]; exact b1
      · rw [f21]; exact b2
      · rw [f21]; exact b3
      · rw [f21]; exact Nat.le_trans b4 hW
      · rw [f21]
        refine ⟨fun c hc => ?_, ?_, fun w hw => ?_⟩
        · rw [y 10 (by omega)]
          exact b5 c hc
        · rw [z 37 (by omega), z 38 (by omega), z 39 (by omega), z 36 (by omega), z 40 (by omega)]
          exact b6
        · rw [hk w (by omega), y 11 (by omega)]
          exact b7 w hw
  · obtain ⟨n, c1, c2, c3, c4⟩ := a8
    refine ⟨n, c1, ?_, ?_, fun j hj => ?_⟩
    · rw [hx 30 (by decide) (by decide)]; exact c2
    · rw [z 6 (by omega)]; exact c3
    · rw [hx 31 (by decide) (by decide), y 3 (by omega)]
      exact c4 j hj
  · have := a9 s hs
    unfold kSheet at this ⊢
    rw [hx 39 (by decide) (by decide), hx 40 (by decide) (by decide), hx (35 + s) (by omega) (by omega), y 12 (by omega), y 13 (by omega), y 14 (by omega), y 15 (by omega)]
    exact this
def mV (w : Nat) (σ σ' : kS) : Prop := (∀ p : Nat, p ≠ 0 → p ≠ 4 → p ≠ 5 → p ≠ 6 → p ≠ 7 → p ≠ 8 → p ≠ 9 → σ'.1 p = σ.1 p) ∧ (∀ k : Nat, k ≠ 4 → k ≠ 7 → k ≠ 8 → k ≠ 9 → k ≠ 13 → k ≠ 32 → k ≠ 33 → (k < 14 ∨ 28 < k) → σ'.1 0 k = σ.1 0 k) ∧ ∀ j : Nat, j < w → σ'.1 5 j = σ.1 5 j
theorem mV.rf {w : Nat} {σ : kS} : mV w σ σ := ⟨fun _ _ _ _ _ _ _ _ => rfl, fun _ _ _ _ _ _ _ _ _ => rfl, fun _ _ => rfl⟩
theorem mV.tr {w : Nat} {σ σ' σ'' : kS} (h : mV w σ σ') (h' : mV w σ' σ'') : mV w σ σ'' := ⟨fun p p0 p4 p5 p6 p7 p8 p9 => (h'.1 p p0 p4 p5 p6 p7 p8 p9).trans (h.1 p p0 p4 p5 p6 p7 p8 p9), fun k h1 h2 h3 h4 h5 h6 h7 h8 => (h'.2.1 k h1 h2 h3 h4 h5 h6 h7 h8).trans (h.2.1 k h1 h2 h3 h4 h5 h6 h7 h8), fun j hj => (h'.2.2 j hj).trans (h.2.2 j hj)⟩
theorem mU.v {w : Nat} {σ σ' : kS} (h : mU σ σ') : mV w σ σ' := ⟨fun p p0 p4 _ _ p7 p8 p9 => h.1 p p0 p4 p7 p8 p9, fun k _ _ _ _ _ h6 h7 h8 => h.2.1 k h6 h7 h8, fun j _ => by rw [h.1 5 (by decide) (by decide) (by decide) (by decide) (by decide)]⟩
theorem mC.v {w : Nat} {σ σ' : kS} (h : mC w σ σ') : mV w σ σ' := ⟨fun p p0 _ p5 p6 _ _ _ => h.1 p p0 p5 p6, fun k _ _ _ _ h5 _ _ _ => h.2.1 k h5, fun j hj => h.2.2.1 j hj⟩
theorem mE.v {W : Nat → Nat → (Nat → Int32) → Int32} {nt w : Nat} {σ σ' : kS} (h : mE W nt σ) (ho : mV w σ σ') : mE W nt σ' := by
  refine ⟨h.1, fun t ht => ?_⟩
  rw [ho.1 1 (by decide) (by decide) (by decide) (by decide) (by decide) (by decide) (by decide), ho.1 2 (by decide) (by decide) (by decide) (by decide) (by decide) (by decide) (by decide)]
  exact h.2 t ht
theorem k_unadd {A : kFn} {σ : kS} {k n c : Int32} (h6 : sWorks A < 6) (hn : A 0 11 = nI (sWorks A)) (h : mR (sAdd A k n c) σ) : mR A (kset σ 0 13 (nI (sWorks A))) := by
  obtain ⟨a, ⟨b1, b2, b3, b4, b5⟩, d⟩ := h
  unfold sAdd at b1 b2 b3 b5
  rw [fset_ne (by decide)] at b1 b2 b3 b5
  refine ⟨fun x hx => ?_, ⟨?_, ?_, ?_, ?_, ?_⟩, fun y hy => ?_⟩
  · rw [kset_off (by decide)]
    exact a x hx
  · rw [kset_ne (by decide)]; exact b1
  · rw [kset_ne (by decide)]; exact b2
  · rw [kset_ne (by decide)]; exact b3
  · rw [kset_at]; exact hn.symm
  · rw [kset_ne (by decide)]; exact b5
  · rw [kset_off (by decide), kset_off (by decide)]
    have e := d y (by rw [sAdd_works h6]; omega)
    have q : y ≠ sWorks A := by omega
    have e2 : σ.1 5 y = fset A 4 (sWorks A) k 4 y ∧ σ.1 6 (3 * y) = fset A 5 (sWorks A) n 5 y ∧ σ.1 6 (3 * y + 1) = fset A 6 (sWorks A) c 6 y ∧ σ.1 6 (3 * y + 2) = fset A 7 (sWorks A) 1 7 y := e
    rw [fset_ne q, fset_ne q, fset_ne q, fset_ne q] at e2
    exact e2
def sBest (b0 : Int32) (f : Nat → Int32) : Nat → Int32 × Int32
  | 0 => (b0, -1)
  | i + 1 => if f i ≤ (sBest b0 f i).2 then sBest b0 f i else (nI i, f i)
theorem sBest_same {b0 b1 : Int32} {f : Nat → Int32} (h : 0 ≤ f 0) : ∀ n : Nat, sBest b0 f (n + 1) = sBest b1 f (n + 1) := by
  intro n
  induction n with
  | zero =>
    have q : ¬ f 0 ≤ (-1 : Int32) := by grind
    exact (if_neg q).trans (if_neg q).symm
  | succ n ih =>
    show (if f (n + 1) ≤ (sBest b0 f (n + 1)).2 then sBest b0 f (n + 1) else (nI (n + 1), f (n + 1))) = (if f (n + 1) ≤ (sBest b1 f (n + 1)).2 then sBest b1 f (n + 1) else (nI (n + 1), f (n + 1)))
    rw [ih]
def sWh (W : Nat → Nat → (Nat → Int32) → Int32) (A : kFn) (n q : Nat) (c : Nat) : Int32 := sPop (sDry (sRun W false 0 n (sAdd A (nI (q / 10)) (nI (q % 10)) (nI c))))
theorem x_whereL {tx : List kTxt} {n q : Nat} {l3 : Int32} {σx : kS} {Q : Int32 → kS → Prop} (hn : n ≤ 30) (hq : q < 60) (hlt : sWorks (fx 3 σx) < 6) (hE : xE tx σx) (hO : sOk tx.length (fx 3 σx)) (h : ∀ s : kS, xO1 σx s → (l3 ≠ 0 → Q (sBest 0 (sWh (sW tx) (nf (fx 3 σx)) n q) 12).2 s) ∧ (l3 = 0 → Q (sBest 0 (sWh (sW tx) (nf (fx 3 σx)) n q) 12).1 s)) : wX4_where_53 tx Q (nI q) (nI n) l3 (0 : Int32) (-1 : Int32) (0 : Int32) σx := by
  have ed := i_divrem (m := q) (d := 10) (by omega) (by decide) (by decide)
  have ed1 : nI q / (10 : Int32) = nI (q / 10) := ed.1
  have ed2 : krem (nI q) (10 : Int32) = nI (q % 10) := ed.2
  intro P hP
  suffices key : ∀ r c : Nat, c + r = 12 → ∀ s : kS, xO1 σx s → P s (sBest 0 (sWh (sW tx) (nf (fx 3 σx)) n q) c).1 (sBest 0 (sWh (sW tx) (nf (fx 3 σx)) n q) c).2 (nI c) from key 12 0 rfl σx xO1.rf
  intro r
  induction r with
  | zero =>
    intro c hc s o
    have e : c = 12 := by omega
    subst e
    exact hP _ _ _ _ ⟨fun _ => h s o, fun q => absurd (k_at rfl) q⟩
  | succ r ih =>
    intro c hc s o
    have now : fx 3 s = fx 3 σx := xO1_fx o
    refine hP _ _ _ _ ⟨fun q => absurd q (k_ge (N := 12) (by omega) (by decide) rfl), fun _ => x_think (fun s6 f6 o6 => ?_)⟩
    rw [now] at f6
    have ok6 : sOk tx.length (fx 12 s6) := nf_ok.mp (by rw [f6]; exact nf_ok.mpr hO)
    have w6 : sWorks (fx 12 s6) = sWorks (fx 3 σx) := by rw [← nf_works, f6, nf_works]
    refine x_add ok6 (by rw [w6]; exact hlt) (fun s7 f7 o7 => ?_)
    rw [ed1, ed2] at f7
    have okA : sOk tx.length (fx 12 s7) := by
      rw [f7]
      exact sAdd_ok ok6 (by rw [w6]; exact hlt) ⟨nI_pos' (by omega), nI_le (b := 5) (by omega) (by decide)⟩ ⟨nI_pos' (by omega), nI_le (b := 9) (by omega) (by decide)⟩ ⟨c, by omega, rfl⟩
    have n7 : nf (fx 12 s7) = sAdd (nf (fx 3 σx)) (nI (q / 10)) (nI (q % 10)) (nI c) := by
      rw [f7, ← nf_add (by rw [w6]; exact hlt), f6]
    refine x_behind (by omega) (((hE.o1 o).o o6 (by decide)).o o7 (by decide)) okA (fun s8 o8 => x_pop ?_)
    have ev : sPop (sDry (sRun (sW tx) false 0 n (fx 12 s7))) = sWh (sW tx) (nf (fx 3 σx)) n q c := by
      unfold sWh
      rw [← n7, (sRun_ok okA n).2, nf_dry]
    rw [ev]
    have nx := ih (c + 1) (by omega) s8 (o.tr (o6.tr (o7.tr o8)).o1)
    refine ⟨fun z x ex => ?_, fun z x ex => ?_⟩
    · rw [show sBest 0 (sWh (sW tx) (nf (fx 3 σx)) n q) (c + 1) = sBest 0 (sWh (sW tx) (nf (fx 3 σx)) n q) c from if_pos z] at nx
      rw [ex, k_n1]
      exact nx
    · rw [show sBest 0 (sWh (sW tx) (nf (fx 3 σx)) n q) (c + 1) = (nI c, sWh (sW tx) (nf (fx 3 σx)) n q c) from if_neg z] at nx
      rw [ex, k_n1]
      exact nx
theorem m_whereL {nt n q : Nat} {W : Nat → Nat → (Nat → Int32) → Int32} {l3 : Int32} {A : kFn} {σm : kS} {Q : Int32 → kS → Prop} (hn : n ≤ 30) (hq : q < 60) (hlt : sWorks A < 6) (hE : mE W nt σm) (hO : sOk nt A) (hR : mR A σm) (h : ∀ s : kS, mR A s → mV (sWorks A) σm s → (l3 ≠ 0 → Q (sBest (-1) (sWh W A n q) 12).2 s) ∧ (l3 = 0 → Q (sBest (-1) (sWh W A n q) 12).1 s)) : wX5_where_58 Q (nI q) (nI n) l3 (-1 : Int32) (-1 : Int32) (0 : Int32) σm := by
  have ed := i_divrem (m := q) (d := 10) (by omega) (by decide) (by decide)
  have ed1 : nI q / (10 : Int32) = nI (q / 10) := ed.1
  have ed2 : krem (nI q) (10 : Int32) = nI (q % 10) := ed.2
  intro P hP
  suffices key : ∀ r c : Nat, c + r = 12 → ∀ s : kS, mR A s → mV (sWorks A) σm s → P s (sBest (-1) (sWh W A n q) c).1 (sBest (-1) (sWh W A n q) c).2 (nI c) from key 12 0 rfl σm hR mV.rf
  intro r
  induction r with
  | zero =>
    intro c hc s rr o
    have e : c = 12 := by omega
    subst e
    exact hP _ _ _ _ ⟨fun _ => h s rr o, fun q => absurd (k_at rfl) q⟩
  | succ r ih =>
    intro c hc s rr o
    refine hP _ _ _ _ ⟨fun q => absurd q (k_ge (N := 12) (by omega) (by decide) rfl), fun _ => ?_⟩
    rw [ed1, ed2]
    refine m_comes hO rr hlt (fun s1 r1 c1 => ?_)
    have okA : sOk nt (sAdd A (nI (q / 10)) (nI (q % 10)) (nI c)) := sAdd_ok hO hlt ⟨nI_pos' (by omega), nI_le (b := 5) (by omega) (by decide)⟩ ⟨nI_pos' (by omega), nI_le (b := 9) (by omega) (by decide)⟩ ⟨c, by omega, rfl⟩
    refine m_with hn ((hE.v o).v c1.v) okA r1 (fun s2 u2 => m_bitsOf sDry_set (fun s3 e3 => ?_))
    have r2 := mU_R u2 r1
    have n13 : s2.1 0 13 = nI (sWorks A + 1) := by rw [u2.2.1 13 (by decide) (by decide) (by decide)]; exact c1.2.2.2.2
    rw [n13, nI_pred] at e3
    have r3 : mR A s3 := by rw [e3]; exact k_unadd hlt hO.works.2 r2
    have o3 : mV (sWorks A) s2 s3 := by
      rw [e3]
      exact ⟨fun p p0 _ _ _ _ _ _ => kset_off p0, fun k _ _ _ _ h5 _ _ _ => kset_ne h5, fun j _ => by rw [kset_off (by decide)]⟩
    have nx := ih (c + 1) (by omega) s3 r3 (o.tr (c1.v.tr (u2.v.tr o3)))
    refine ⟨fun z x ex => ?_, fun z x ex => ?_⟩
    · rw [show sBest (-1) (sWh W A n q) (c + 1) = sBest (-1) (sWh W A n q) c from if_pos z] at nx
      rw [ex, k_n1]
      exact nx
    · rw [show sBest (-1) (sWh W A n q) (c + 1) = (nI c, sWh W A n q c) from if_neg z] at nx
      rw [ex, k_n1]
      exact nx
theorem s_where {tx : List kTxt} {σx σm : kS} {l1 l2 l3 : Int32} (hI : kInv tx σx σm) : wX4_where tx l1 l2 l3 σx (kSim tx σm (wX5_where l1 l2 l3 σm)) := by
  have hI0 := hI
  obtain ⟨a1, a2, a3, a4, a5, a6, a7, a8, a9⟩ := hI
  have hO := nf_ok.mpr a4
  obtain ⟨h6, e11⟩ := a4.works
  have e11 : σx.1 3 11 = nI (sWorks (fx 3 σx)) := e11
  have e13 : σm.1 0 13 = nI (sWorks (fx 3 σx)) := by
    have := a5.2.1.2.2.2.1
    rw [nf_0 (by decide) (by decide)] at this
    exact this.trans e11
  have bad : ¬ ((0 ≤ l1 ∧ l1 ≤ 59) ∧ (0 ≤ l2 ∧ l2 ≤ 30) ∧ 0 ≤ l3 ∧ l3 ≤ 1) → kSim tx σm (wX5_where l1 l2 l3 σm) (-2 : Int32) σx := by
    intro hb
    unfold kSim wX5_where
    refine m_in32 (lo := 0) (hi := 59) (by decide) (by decide) (fun q1 => ⟨fun z => absurd z (by decide), fun _ => ?_⟩) (fun _ => ⟨fun _ => ⟨rfl, hI0⟩, fun z => absurd rfl z⟩)
    refine m_years (fun q2 => ⟨fun z => absurd z (by decide), fun _ => ?_⟩) (fun _ => ⟨fun _ => ⟨rfl, hI0⟩, fun z => absurd rfl z⟩)
    exact m_in32 (lo := 0) (hi := 1) (by decide) (by decide) (fun q3 => absurd ⟨q1, q2, q3⟩ hb) (fun _ => ⟨fun z => absurd rfl z, fun _ => ⟨rfl, hI0⟩⟩)
  refine ⟨fun q => bad (fun z => Int32.not_le.mpr q z.1.1), fun q1 => ⟨fun q => bad (fun z => absurd (Int32.le_trans q z.1.2) (by decide)), fun q2 => x_areYears (fun n hn en => ⟨fun z => absurd z (by decide), fun _ => ⟨fun q => bad (fun z => Int32.not_le.mpr q z.2.2.1), fun q3 => ⟨fun q4 => ?_, fun q => bad (fun z => q z.2.2.2)⟩⟩⟩) (fun q => ⟨fun _ => bad (fun z => q z.2.1), fun z => absurd rfl z⟩)⟩⟩
  subst en
  obtain ⟨q, hq, e⟩ := nI_of2 (x := l1) (M := 59) (n := 59) (by decide) q1 (by grind)
  subst e
  have hin : 0 ≤ nI q ∧ nI q ≤ 59 := ⟨nI_pos' (by omega), nI_le (b := 59) hq (by decide)⟩
  have go : ∀ R : Int32 → kS → Prop, (((σm.1 0 13) ≠ (6 : Int32) → wX5_where_58 R (nI q) (nI n) l3 (-1 : Int32) (-1 : Int32) (0 : Int32) σm) ∧ ((σm.1 0 13) = (6 : Int32) → R (-4 : Int32) σm)) → wX5_where (nI q) (nI n) l3 σm R := by
    intro R hr
    refine m_in32 (lo := 0) (hi := 59) (by decide) (by decide) (fun _ => ⟨fun z => absurd z (by decide), fun _ => ?_⟩) (fun z => absurd hin z)
    refine m_years (fun _ => ⟨fun z => absurd z (by decide), fun _ => ?_⟩) (fun z => absurd (nI_30 hn) z)
    exact m_in32 (lo := 0) (hi := 1) (by decide) (by decide) (fun _ => ⟨fun _ => hr, fun z => absurd z (by decide)⟩) (fun z => absurd ⟨Int32.not_lt.mp q3, q4⟩ z)
  refine ⟨fun q5 => ?_, fun q5 => ?_⟩
  · have hlt : sWorks (fx 3 σx) < 6 := by
      rw [e11] at q5
      exact (nI_ltI (b := 6) (by omega) (by decide)).mp q5
    have hlt' : sWorks (nf (fx 3 σx)) < 6 := by rw [nf_works]; exact hlt
    have same := sBest_same (b0 := 0) (b1 := -1) (f := sWh (sW tx) (nf (fx 3 σx)) n q) (sDry_set.pop).1 11
    refine x_whereL hn (by omega) hlt a1 a4 (fun s1 o1 => ?_)
    have back : ∀ s2 : kS, mR (nf (fx 3 σx)) s2 → mV (sWorks (nf (fx 3 σx))) σm s2 → kInv tx s1 s2 := by
      intro s2 r2 v2
      have now : fx 3 s1 = fx 3 σx := xO1_fx o1
      have hu := hI0.u o1 mU.rf
      refine hu.re (fun p _ _ => rfl) v2.1 v2.2.1 (fun w hw => v2.2.2 w (by rw [nf_works, ← now]; exact hw)) hu.2.2.2.1 ?_ hu.2.2.2.2.2.1 (Nat.le_refl _)
      rw [now]
      exact r2
    refine ⟨fun z => ?_, fun z => ?_⟩
    · unfold kSim
      refine go _ ⟨fun _ => m_whereL hn (by omega) hlt' a2 hO a5 (fun s2 r2 v2 => ⟨fun _ => ⟨?_, back s2 r2 v2⟩, fun y => absurd y z⟩), fun y => ?_⟩
      · rw [same]
      · rw [e13] at y
        have := (nI_eq (b := 6) (by omega) (by decide)).mp y
        omega
    · unfold kSim
      refine go _ ⟨fun _ => m_whereL hn (by omega) hlt' a2 hO a5 (fun s2 r2 v2 => ⟨fun y => absurd z y, fun _ => ⟨?_, back s2 r2 v2⟩⟩), fun y => ?_⟩
      · rw [same]
      · rw [e13] at y
        have := (nI_eq (b := 6) (by omega) (by decide)).mp y
        omega
  · have h66 : sWorks (fx 3 σx) = 6 := by
      rcases Nat.lt_or_ge (sWorks (fx 3 σx)) 6 with z | z
      · rw [e11] at q5
        exact absurd (nI_lt (b := 6) z (by decide)) q5
      · omega
    unfold kSim
    refine go _ ⟨fun z => absurd (by rw [e13, h66]; rfl) z, fun _ => ⟨rfl, hI0⟩⟩
