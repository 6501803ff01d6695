/-! the class reads a text as the pure parser does -/
def pPart (T : Nat → Nat) (N w i : Nat) : pRs := if lC T N i = 256 + w then pB (pAll T N 5 0 (lE T N i)) (fun j c => if lC T N j = 59 then (lE T N j, some c) else pBad T N j) else pBad T N i
abbrev pTx : Type := Nat × Option ((List Int32 × kVal) × (List Int32 × kVal) × (List Int32 × kVal))
def pText2 (T : Nat → Nat) (N : Nat) (c0 c1 : List Int32 × kVal) (r : pRs) : pTx := match r.2 with
  | none => (r.1, none)
  | some c2 => if lC T N r.1 = 0 then (r.1, some (c0, c1, c2)) else (lP T N r.1, none)
def pText1 (T : Nat → Nat) (N : Nat) (c0 : List Int32 × kVal) (r : pRs) : pTx := match r.2 with
  | none => (r.1, none)
  | some c1 => pText2 T N c0 c1 (pPart T N 2 r.1)
def pText0 (T : Nat → Nat) (N : Nat) (r : pRs) : pTx := match r.2 with
  | none => (r.1, none)
  | some c0 => pText1 T N c0 (pPart T N 1 r.1)
def pText (T : Nat → Nat) (N : Nat) : pTx := pText0 T N (pPart T N 0 0)
theorem pText2_n {T : Nat → Nat} {N : Nat} {c0 c1 : List Int32 × kVal} {r : pRs} (h : r.2 = none) : pText2 T N c0 c1 r = (r.1, none) := by
  unfold pText2
  rw [h]
theorem pText2_s {T : Nat → Nat} {N : Nat} {c0 c1 c2 : List Int32 × kVal} {r : pRs} (h : r.2 = some c2) : pText2 T N c0 c1 r = if lC T N r.1 = 0 then (r.1, some (c0, c1, c2)) else (lP T N r.1, none) := by
  unfold pText2
  rw [h]
theorem pText1_n {T : Nat → Nat} {N : Nat} {c0 : List Int32 × kVal} {r : pRs} (h : r.2 = none) : pText1 T N c0 r = (r.1, none) := by
  unfold pText1
  rw [h]
theorem pText1_s {T : Nat → Nat} {N : Nat} {c0 c1 : List Int32 × kVal} {r : pRs} (h : r.2 = some c1) : pText1 T N c0 r = pText2 T N c0 c1 (pPart T N 2 r.1) := by
  unfold pText1
  rw [h]
theorem pText0_n {T : Nat → Nat} {N : Nat} {r : pRs} (h : r.2 = none) : pText0 T N r = (r.1, none) := by
  unfold pText0
  rw [h]
theorem pText0_s {T : Nat → Nat} {N : Nat} {c0 : List Int32 × kVal} {r : pRs} (h : r.2 = some c0) : pText0 T N r = pText1 T N c0 (pPart T N 1 r.1) := by
  unfold pText0
  rw [h]
theorem pFar_part {T : Nat → Nat} {N w i : Nat} (hi : i ≤ N) : pFar N i (pPart T N w i) := by
  unfold pPart
  split
  · obtain ⟨e1, e2, e3⟩ := lE_in (T := T) hi
    have far := pFar_all (T := T) (N := N) 5 0 _ e2
    refine pFar_B (pFar_mono far e1) (fun d hd => ?_)
    obtain ⟨k1, k2⟩ := far.2 d hd
    obtain ⟨f1, f2, f3⟩ := lE_in (T := T) far.1
    split
    · refine ⟨f2, fun c e => ?_⟩
      cases e
      refine ⟨?_, ?_⟩
      · show i ≤ lE T N (pAll T N 5 0 (lE T N i)).1
        omega
      · show d.1.length ≤ lE T N (pAll T N 5 0 (lE T N i)).1 - i
        omega
    · exact pFar_bad far.1
  · exact pFar_bad hi
theorem pSay_part {T : Nat → Nat} {N w i : Nat} : pSay 31 (pPart T N w i) := by
  unfold pPart
  split
  · refine pSay_B (fun d hd => ?_)
    split
    · intro c e env
      cases e
      exact pSay_all (fun i => lA_all i) 5 0 _ (by decide) d hd env
    · exact pSay_bad
  · exact pSay_bad
def xPRes (T : Nat → Nat) (N : Nat) (r : pRs) (σ : kS) (Q : Nat → (Nat → Int32) → kS → Prop) : Prop :=
  (r.2 = none → ∀ s : kS, xRf σ s → xDd r.1 s → ∀ (n : Nat) (g : Nat → Int32), n ≤ 160 → Q n g s) ∧ ∀ c : List Int32 × kVal, r.2 = some c → ∀ s : kS, xRf σ s → xAt T N r.1 s → ∀ g : Nat → Int32, xHold g 0 c.1 → Q c.1.length g s
theorem x_partEnd {T : Nat → Nat} {N j n : Nat} {s : kS} {Q : Nat → (Nat → Int32) → kS → Prop} (hn : n ≤ 160) (e8 : s.1 30 8 = nI n) (h : ∀ g : Nat → Int32, (∀ j : Nat, j < n → g j = s.1 32 j) → Q n g s) : (¬ s.1 30 8 < 0) ∧ (s.1 30 8).toNatClampNeg ≤ 160 ∧ Q (s.1 30 8).toNatClampNeg (va_cpy (s.1 32) (fun _ => 0) (0 : Int32).toNatClampNeg (0 : Int32).toNatClampNeg (s.1 30 8).toNatClampNeg) s := by
  rw [e8, k_cl (by omega), k_z]
  exact ⟨k_nn (by omega), hn, h _ (fun j hj => sb_cpy0 hj)⟩
theorem x_partD {f w : Nat} {σ : kS} {Q : Nat → (Nat → Int32) → kS → Prop} (hw : w < 3) (hD : xDd f σ) (h : ∀ s : kS, xRf σ s → xDd f s → ∀ (n : Nat) (g : Nat → Int32), n ≤ 160 → Q n g s) : wX1_readPart (nI w) σ Q := by
  intro s1 e1
  have o1 : xRf σ s1 := by rw [e1]; exact xRf.set (by omega)
  have d1 : xDd f s1 := by
    obtain ⟨a, b, c, d⟩ := hD
    refine ⟨a, ?_, ?_, 0, by decide, by rw [e1, kset_at]; rfl⟩
    · rw [e1, kset_ne (by decide)]; exact b
    · rw [e1, kset_ne (by decide)]; exact c
  rw [show (256 : Int32) + nI w = nI (256 + w) from nI_add 256 w]
  refine x_expectD d1 (by omega) (by omega) (xd_either (d := 34) d1 (fun s3 o3 d3 => x_expectD (w := 59) d3 (by decide) (by decide) ?_))
  obtain ⟨a, b, c, l, hl, el⟩ := d3
  exact x_partEnd (T := fun _ => 0) (N := 0) (j := 0) hl el (fun g _ => h s3 (o1.tr o3) ⟨a, b, c, l, hl, el⟩ l g hl)
theorem x_part {T : Nat → Nat} {N w i : Nat} {σ : kS} {Q : Nat → (Nat → Int32) → kS → Prop} (hw : w < 3) (hi : i ≤ N) (hA : xAt T N i σ) (res : xPRes T N (pPart T N w i) σ Q) : wX1_readPart (nI w) σ Q := by
  have hN := hA.1.1
  intro s1 e1
  have o1 : xRf σ s1 := by rw [e1]; exact xRf.set (by omega)
  have l1 : s1.1 30 8 = nI 0 := by rw [e1, kset_at]; rfl
  have a1 : xAt T N i s1 := by
    obtain ⟨a1, a2, a3, a4, a5, a6⟩ := hA
    have z : ∀ q : Nat, q ≠ 8 → s1.1 30 q = σ.1 30 q := fun q hq => by rw [e1, kset_ne hq]
    refine ⟨a1.rf o1, ?_, ?_, ?_, ?_, fun y => ?_⟩
    · rw [z 6 (by decide)]; exact a2
    · rw [z 3 (by decide)]; exact a3
    · rw [z 4 (by decide)]; exact a4
    · rw [z 2 (by decide)]; exact a5
    · rw [z 5 (by decide)]; exact a6 y
  obtain ⟨w1, w2, w3⟩ := lE_in (T := T) hi
  rw [show (256 : Int32) + nI w = nI (256 + w) from nI_add 256 w]
  refine x_expect hi a1 (by omega) (by decide) l1 (fun hc s2 o2 a2 => ?_) (fun hc s2 o2 d2 => ?_)
  · unfold pPart at res
    rw [if_pos hc] at res
    have far := pFar_all (T := T) (N := N) 5 0 _ w2
    refine (x_all hN 5 (by decide)).2.2 40 (by decide) (lE T N i) 0 s2 _ w2 a2 ?_ (by omega) ⟨fun hn s3 o3 d3 => ?_, fun c hs s3 o3 a3 l3 h3 m3 => ?_⟩
    · rw [o2.2.1 8 (by decide) (by decide) (by decide) (by decide)]
      exact l1
    · rw [pB_none hn] at res
      refine x_expectD (w := 59) d3 (by decide) (by decide) ?_
      obtain ⟨a, b, c, l, hl, el⟩ := d3
      exact x_partEnd (T := T) (N := N) (j := 0) hl el (fun g _ => res.1 hn s3 (o1.tr (o2.r.tr o3)) ⟨a, b, c, l, hl, el⟩ l g hl)
    · rw [pB_some hs] at res
      obtain ⟨f1, f2⟩ := far.2 c hs
      have f3 := far.1
      rw [Nat.zero_add] at l3
      refine x_expect (w := 59) f3 a3 (by decide) (by omega) l3 (fun hc2 s4 o4 a4 => ?_) (fun hc2 s4 o4 d4 => ?_)
      · rw [if_pos hc2] at res
        refine x_partEnd (T := T) (N := N) (j := 0) (n := c.1.length) (by omega) ?_ (fun g hg => res.2 c rfl s4 (o1.tr (o2.r.tr (o3.tr o4.r))) a4 g ?_)
        · rw [o4.2.1 8 (by decide) (by decide) (by decide) (by decide)]
          exact l3
        · refine xHold_eq c.1 0 (fun j _ hj => ?_) h3
          rw [hg j (by omega), o4.1 32 (by decide)]
      · rw [if_neg hc2] at res
        obtain ⟨a, b, c', l, hl, el⟩ := d4
        exact x_partEnd (T := T) (N := N) (j := 0) hl el (fun g _ => res.1 rfl s4 (o1.tr (o2.r.tr (o3.tr o4))) ⟨a, b, c', l, hl, el⟩ l g hl)
  · unfold pPart at res
    rw [if_neg hc] at res
    refine xd_either (d := 34) d2 (fun s3 o3 d3 => x_expectD (w := 59) d3 (by decide) (by decide) ?_)
    obtain ⟨a, b, c, l, hl, el⟩ := d3
    exact x_partEnd (T := T) (N := N) (j := 0) hl el (fun g _ => res.1 rfl s3 (o1.tr (o2.tr o3)) ⟨a, b, c, l, hl, el⟩ l g hl)
/-- what reading the tape changes -/
def xTf (σ σ' : kS) : Prop := (∀ p : Nat, p ≠ 30 → p ≠ 32 → σ'.1 p = σ.1 p) ∧ σ'.2 = σ.2
theorem x_read {T : Nat → Nat} {N : Nat} {σ : kS} {Q : Option kPt3 → kS → Prop} (hT : xTp T N σ)
    (h0 : (pText T N).2 = none → (pText T N).1 ≤ 160 → ∀ s : kS, xTf σ s → s.1 30 6 = nI (pText T N).1 → s.1 30 1 = 0 → Q none s)
    (h1 : ∀ c0 c1 c2 : List Int32 × kVal, (pText T N).2 = some (c0, c1, c2) → (∀ c : List Int32 × kVal, c = c0 ∨ c = c1 ∨ c = c2 → c.1.length ≤ 160) → ∀ s : kS, xTf σ s → s.1 30 1 = 0 → ∀ g0 g1 g2 : Nat → Int32, xHold g0 0 c0.1 → xHold g1 0 c1.1 → xHold g2 0 c2.1 → Q (some ((c0.1.length, g0), (c1.1.length, g1), (c2.1.length, g2))) s) : wX1_read σ Q := by
  have hN := hT.1
  intro s1 e1 s2 e2
  have o2 : xRf σ s2 := by rw [e2, e1]; exact (xRf.set (by omega)).tr (xRf.set (by omega))
  have at2 : s2.1 30 2 = nI 0 := by rw [e2, kset_ne (by decide), e1, kset_at]; rfl
  have f2 : s2.1 30 6 = -1 := by rw [e2, kset_at]
  have fin0 : ∀ f : Nat, (pText T N).2 = none → (pText T N).1 = f → ∀ s6 : kS, xRf σ s6 → xDd f s6 → ∀ c : kPt3, ∀ s8 : kS, s8 = kset s6 30 1 (0 : Int32) → (s8.1 30 6 ≠ (-1 : Int32) → Q none s8) ∧ (s8.1 30 6 = (-1 : Int32) → Q (some c) s8) := by
    intro f hn hf s6 o6 d6 c s8 e8
    have e6 : s8.1 30 6 = nI f := by rw [e8, kset_ne (by decide)]; exact d6.2.1
    refine ⟨fun _ => h0 hn (by rw [hf]; exact d6.1) s8 ⟨fun p hp hq => ?_, ?_⟩ (by rw [hf]; exact e6) (by rw [e8, kset_at]), fun q => ?_⟩
    · rw [e8, kset_off hp]
      exact o6.1 p hp hq
    · rw [e8]
      exact o6.2.2
    · rw [e6] at q
      have := d6.1
      exact absurd q (nI_nm1 (by omega))
  refine x_next (hT.rf o2) (Nat.zero_le _) at2 f2 (fun s3 o3 c3 p3 e3 n3 => ?_)
  have a3 : xAt T N 0 s3 := ⟨(hT.rf o2).nf o3, by rw [o3.2.1 6 (by decide) (by decide) (by decide) (by decide)]; exact f2, c3, p3, e3, n3⟩
  have os3 := o2.tr o3.r
  have far0 := pFar_part (T := T) (w := 0) (Nat.zero_le N)
  refine x_part (w := 0) (by decide) (Nat.zero_le _) a3 ⟨fun hn s4 o4 d4 n0 g0 hn0 => ?_, fun c0 hs0 s4 o4 a4 g0 hg0 => ?_⟩
  · have e : pText T N = ((pPart T N 0 0).1, none) := pText0_n hn
    refine x_partD (w := 1) (by decide) d4 (fun s5 o5 d5 n1 g1 hn1 => x_partD (w := 2) (by decide) d5 (fun s6 o6 d6 n2 g2 hn2 => x_expectD (w := 0) d6 (by decide) (by decide) ?_))
    exact fin0 _ (by rw [e]) (by rw [e]) s6 (os3.tr (o4.tr (o5.tr o6))) d6 _
  · have e0 : pText T N = pText1 T N c0 (pPart T N 1 (pPart T N 0 0).1) := pText0_s hs0
    have far1 := pFar_part (T := T) (w := 1) far0.1
    refine x_part (w := 1) (by decide) far0.1 a4 ⟨fun hn s5 o5 d5 n1 g1 hn1 => ?_, fun c1 hs1 s5 o5 a5 g1 hg1 => ?_⟩
    · have e : pText T N = ((pPart T N 1 (pPart T N 0 0).1).1, none) := e0.trans (pText1_n hn)
      refine x_partD (w := 2) (by decide) d5 (fun s6 o6 d6 n2 g2 hn2 => x_expectD (w := 0) d6 (by decide) (by decide) ?_)
      exact fin0 _ (by rw [e]) (by rw [e]) s6 (os3.tr (o4.tr (o5.tr o6))) d6 _
    · have e1 : pText T N = pText2 T N c0 c1 (pPart T N 2 (pPart T N 1 (pPart T N 0 0).1).1) := e0.trans (pText1_s hs1)
      have far2 := pFar_part (T := T) (w := 2) far1.1
      refine x_part (w := 2) (by decide) far1.1 a5 ⟨fun hn s6 o6 d6 n2 g2 hn2 => ?_, fun c2 hs2 s6 o6 a6 g2 hg2 => ?_⟩
      · have e : pText T N = ((pPart T N 2 (pPart T N 1 (pPart T N 0 0).1).1).1, none) := e1.trans (pText2_n hn)
        refine x_expectD (w := 0) d6 (by decide) (by decide) ?_
        exact fin0 _ (by rw [e]) (by rw [e]) s6 (os3.tr (o4.tr (o5.tr o6))) d6 _
      · have e2' := e1.trans (pText2_s (T := T) (N := N) (c0 := c0) (c1 := c1) hs2)
        obtain ⟨k0, j0⟩ := far0.2 c0 hs0
        obtain ⟨k1, j1⟩ := far1.2 c1 hs1
        obtain ⟨k2, j2⟩ := far2.2 c2 hs2
        have b0 := far0.1
        have b1 := far1.1
        have b2 := far2.1
        by_cases hz : lC T N (pPart T N 2 (pPart T N 1 (pPart T N 0 0).1).1).1 = 0
        · rw [if_pos hz] at e2'
          refine ⟨fun q => absurd (by rw [a6.2.2.1, hz]; rfl) q, fun _ => x_nextA far2.1 a6 (fun s7 o7 a7 s8 e8 => ⟨fun q => absurd ?_ q, fun _ => ?_⟩)⟩
          · rw [e8, kset_ne (by decide)]
            exact a7.2.1
          · refine h1 c0 c1 c2 (by rw [e2']) (fun c hc => ?_) s8 ⟨fun p hp hq => ?_, ?_⟩ (by rw [e8, kset_at]) g0 g1 g2 hg0 hg1 hg2
            · rcases hc with z | z | z <;> rw [z] <;> omega
            · rw [e8, kset_off hp]
              exact (os3.tr (o4.tr (o5.tr (o6.tr o7.r)))).1 p hp hq
            · rw [e8]
              exact (os3.tr (o4.tr (o5.tr (o6.tr o7.r)))).2.2
        · rw [if_neg hz] at e2'
          refine ⟨fun _ => ?_, fun q => ?_⟩
          · -- the class only looks at the fault here
            refine ⟨fun q => absurd a6.2.1 q, fun _ u2 v2 u3 v3 s8 e8 => ?_⟩
            have hp := (lP_in (T := T) far2.1).2
            have e6 : s8.1 30 6 = nI (lP T N (pPart T N 2 (pPart T N 1 (pPart T N 0 0).1).1).1) := by
              rw [e8, kset_ne (by decide), v3, kset_ne (by decide), v2, kset_at]
              exact a6.2.2.2.1
            refine ⟨fun _ => h0 (by rw [e2']) (by rw [e2']; show lP T N _ ≤ 160; omega) s8 ⟨fun p hp hq => ?_, ?_⟩ (by rw [e2']; exact e6) (by rw [e8, kset_at]), fun q => ?_⟩
            · rw [e8, kset_off hp, v3, kset_off hp, v2, kset_off hp]
              exact (os3.tr (o4.tr (o5.tr o6))).1 p hp hq
            · rw [e8, v3, v2]
              exact (os3.tr (o4.tr (o5.tr o6))).2.2
            · rw [e6] at q
              exact absurd q (nI_nm1 (by omega))
          · rw [a6.2.2.1] at q
            have hc : lC T N (pPart T N 2 (pPart T N 1 (pPart T N 0 0).1).1).1 < 268 := lC_in
            exact absurd ((nI_eq (b := 0) (by omega) (by decide)).mp q) hz
