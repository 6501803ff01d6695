/-! the reference reads a text as the pure parser does -/
theorem e_term5 : wX5_term5 = gTerm wX5_atom5 := rfl
theorem e_added5 : wX5_added5 = gAdded wX5_term5 := rfl
theorem e_not5 : wX5_not5 = gNot5 wX5_added5 := rfl
theorem e_both5 : wX5_both5 = gBoth wX5_not5 := rfl
theorem e_either5 : wX5_either5 = gEither wX5_both5 := rfl
theorem e_atom4 : wX5_atom4 = gAtom wX5_atom5 wX5_either5 := rfl
theorem e_term4 : wX5_term4 = gTerm wX5_atom4 := rfl
theorem e_added4 : wX5_added4 = gAdded wX5_term4 := rfl
theorem e_not4 : wX5_not4 = gNot wX5_not5 wX5_added4 := rfl
theorem e_both4 : wX5_both4 = gBoth wX5_not4 := rfl
theorem e_either4 : wX5_either4 = gEither wX5_both4 := rfl
theorem e_atom3 : wX5_atom3 = gAtom wX5_atom4 wX5_either4 := rfl
theorem e_term3 : wX5_term3 = gTerm wX5_atom3 := rfl
theorem e_added3 : wX5_added3 = gAdded wX5_term3 := rfl
theorem e_not3 : wX5_not3 = gNot wX5_not4 wX5_added3 := rfl
theorem e_both3 : wX5_both3 = gBoth wX5_not3 := rfl
theorem e_either3 : wX5_either3 = gEither wX5_both3 := rfl
theorem e_atom2 : wX5_atom2 = gAtom wX5_atom3 wX5_either3 := rfl
theorem e_term2 : wX5_term2 = gTerm wX5_atom2 := rfl
theorem e_added2 : wX5_added2 = gAdded wX5_term2 := rfl
theorem e_not2 : wX5_not2 = gNot wX5_not3 wX5_added2 := rfl
theorem e_both2 : wX5_both2 = gBoth wX5_not2 := rfl
theorem e_either2 : wX5_either2 = gEither wX5_both2 := rfl
theorem e_atom1 : wX5_atom1 = gAtom wX5_atom2 wX5_either2 := rfl
theorem e_term1 : wX5_term1 = gTerm wX5_atom1 := rfl
theorem e_added1 : wX5_added1 = gAdded wX5_term1 := rfl
theorem e_not1 : wX5_not1 = gNot wX5_not2 wX5_added1 := rfl
theorem e_both1 : wX5_both1 = gBoth wX5_not1 := rfl
theorem e_either1 : wX5_either1 = gEither wX5_both1 := rfl
theorem e_atom0 : wX5_atom0 = gAtom wX5_atom1 wX5_either1 := rfl
theorem e_term0 : wX5_term0 = gTerm wX5_atom0 := rfl
theorem e_added0 : wX5_added0 = gAdded wX5_term0 := rfl
theorem e_not0 : wX5_not0 = gNot wX5_not1 wX5_added0 := rfl
theorem e_both0 : wX5_both0 = gBoth wX5_not0 := rfl
theorem e_either0 : wX5_either0 = gEither wX5_both0 := rfl
theorem m_up {T : Nat → Nat} {N F k : Nat} {A A' NN NN' E E' Tm Ad Bo : kWp} (hN : N ≤ 160) (hk : k < 5) (eA : A' = gAtom A E) (eT : Tm = gTerm A') (eAd : Ad = gAdded Tm) (eN : NN' = gNot NN Ad) (eB : Bo = gBoth NN') (eE : E' = gEither Bo) (h : mLv T N F A k 5 ∧ mLv T N F NN k 2 ∧ mLv T N F E k 0) : mLv T N F A' (k + 1) 5 ∧ mLv T N F NN' (k + 1) 2 ∧ mLv T N F E' (k + 1) 0 := by
  subst eA eT eAd eN eB eE
  have h5 := m_atom hk h.1 h.2.2
  have h2 := m_not hk (m_added hN (m_term hN h5)) h.2.1
  exact ⟨h5, h2, m_either hN (m_both hN h2)⟩
theorem m_lv5 {T : Nat → Nat} {N F : Nat} (hN : N ≤ 160) : mLv T N F wX5_atom5 0 5 ∧ mLv T N F wX5_not5 0 2 ∧ mLv T N F wX5_either5 0 0 := by
  have h2 : mLv T N F wX5_not5 0 2 := by
    rw [e_not5, e_added5, e_term5]
    exact m_not5 (m_added hN (m_term hN m_atom5))
  refine ⟨m_atom5, h2, ?_⟩
  rw [e_either5, e_both5]
  exact m_either hN (m_both hN h2)
theorem m_lv4 {T : Nat → Nat} {N F : Nat} (hN : N ≤ 160) : mLv T N F wX5_atom4 1 5 ∧ mLv T N F wX5_not4 1 2 ∧ mLv T N F wX5_either4 1 0 := m_up hN (by decide) e_atom4 e_term4 e_added4 e_not4 e_both4 e_either4 (m_lv5 hN)
theorem m_lv3 {T : Nat → Nat} {N F : Nat} (hN : N ≤ 160) : mLv T N F wX5_atom3 2 5 ∧ mLv T N F wX5_not3 2 2 ∧ mLv T N F wX5_either3 2 0 := m_up hN (by decide) e_atom3 e_term3 e_added3 e_not3 e_both3 e_either3 (m_lv4 hN)
theorem m_lv2 {T : Nat → Nat} {N F : Nat} (hN : N ≤ 160) : mLv T N F wX5_atom2 3 5 ∧ mLv T N F wX5_not2 3 2 ∧ mLv T N F wX5_either2 3 0 := m_up hN (by decide) e_atom2 e_term2 e_added2 e_not2 e_both2 e_either2 (m_lv3 hN)
theorem m_lv1 {T : Nat → Nat} {N F : Nat} (hN : N ≤ 160) : mLv T N F wX5_atom1 4 5 ∧ mLv T N F wX5_not1 4 2 ∧ mLv T N F wX5_either1 4 0 := m_up hN (by decide) e_atom1 e_term1 e_added1 e_not1 e_both1 e_either1 (m_lv2 hN)
theorem m_lv0 {T : Nat → Nat} {N F : Nat} (hN : N ≤ 160) : mLv T N F wX5_atom0 5 5 ∧ mLv T N F wX5_not0 5 2 ∧ mLv T N F wX5_either0 5 0 := m_up hN (by decide) e_atom0 e_term0 e_added0 e_not0 e_both0 e_either0 (m_lv1 hN)
theorem m_part0 {f : Nat} {σ : kS} {Q : Int32 → kS → Prop} (hD : mDd f σ) (h : Q 0 σ) : wX5_part_8 Q σ := by
  refine ⟨fun _ => ⟨fun q => absurd q hD.n, fun _ => m_isSignD hD ⟨fun z => absurd rfl z, fun _ => m_failD hD ⟨fun _ => h, fun q => absurd q hD.n⟩⟩⟩, fun q => absurd q hD.n⟩
theorem m_part {T : Nat → Nat} {N F w i : Nat} {σ : kS} {Q : Int32 → kS → Prop} (hN : N ≤ 160) (hw : w < 3) (hi : i ≤ N) (a : mAt T N F i σ) (h26 : σ.1 0 26 = 0) (res : mRes T N F (pPart T N w i) σ Q) : wX5_isWord (nI (kWc w 0)) (nI (kWc w 1)) (nI (kWc w 2)) (nI (kWc w 3)) (nI (kWc w 4)) (nI (kWc w 5)) (nI (kWc w 6)) (nI (kWc w 7)) σ (fun r s => wX5_part r s Q) := by
  obtain ⟨w1, w2, w3⟩ := lE_in (T := T) hi
  unfold pPart at res
  refine m_isWord (w := w) hi (by omega) a (fun hc => ⟨fun _ => ⟨fun q => absurd a.2.1 q, fun _ => ?_⟩, fun z => absurd z (by decide)⟩) (fun hc => ⟨fun z => absurd rfl z, fun _ => ?_⟩)
  · rw [if_pos hc] at res
    have far := pFar_all (T := T) (N := N) 5 0 _ w2
    refine m_nextA hi a (by omega) (by omega) (fun s os as => ⟨fun _ => ?_, fun q => absurd as.2.1 q⟩)
    refine (m_lv0 hN).2.2 _ s _ w2 as (by rw [os.f.k26]; exact h26) ⟨fun e u v ou du => ?_, fun c e u ou au => ?_⟩
    · rw [pB_none e] at res
      exact m_isSignD du ⟨fun z => absurd rfl z, fun _ => m_failD du ⟨fun _ => res.1 e u v (os.f.tr ou) du, fun q => absurd q du.n⟩⟩
    · rw [pB_some e] at res
      refine m_isSign (b := 59) rfl au (fun y => ⟨fun _ => ⟨fun q => absurd au.2.1 q, fun _ => ?_⟩, fun x => absurd x (by decide)⟩) (fun y => ⟨fun x => absurd rfl x, fun _ => m_fail au (fun u2 ou2 du2 => ⟨fun _ => ?_, fun q => absurd q du2.n⟩)⟩)
      · rw [if_pos y] at res
        refine m_nextA far.1 au (by omega) (by omega) (fun v ov av => ?_)
        rw [os.f.env]
        exact res.2 c rfl v (os.f.tr (ou.tr ov.f)) av
      · rw [if_neg y] at res
        exact res.1 rfl u2 _ (os.f.tr (ou.tr ou2)) du2
  · rw [if_neg hc] at res
    exact m_fail a (fun s os ds => m_part0 ds (res.1 rfl s 0 os ds))
def pWh (c0 c1 c2 : List Int32 × kVal) (which : Nat) : kVal := if which = 0 then c0.2 else if which = 1 then c1.2 else c2.2
theorem m_148 {which : Nat} {p q r : Int32} {σ : kS} {Q : Int32 → kS → Prop} (hw : which < 3) (h0 : which = 0 → Q p σ) (h1 : which = 1 → Q q σ) (h2 : which = 2 → Q r σ) : wX5_read_148 Q (nI which) p q r σ := by
  rcases (by omega : which = 0 ∨ which = 1 ∨ which = 2) with e | e | e <;> subst e
  · exact ⟨fun z => absurd rfl z, fun _ => h0 rfl⟩
  · exact ⟨fun _ => ⟨fun z => absurd rfl z, fun _ => h1 rfl⟩, fun z => absurd z (by decide)⟩
  · exact ⟨fun _ => ⟨fun _ => h2 rfl, fun z => absurd z (by decide)⟩, fun z => absurd z (by decide)⟩
theorem m_read {T : Nat → Nat} {N t which : Nat} {σ : kS} {Q : Int32 → kS → Prop} (ht : t < 6) (hN : N ≤ 160) (hsz : σ.1 2 t = nI N) (hb : ∀ j : Nat, j < N → σ.1 1 (160 * t + j) = nI (T j) ∧ T j < 256) (hw : which < 3)
    (h0 : (pText T N).2 = none → ∀ (s : kS) (v : Int32), mS σ s → mDd (pText T N).1 s → Q v s)
    (h1 : ∀ c0 c1 c2 : List Int32 × kVal, (pText T N).2 = some (c0, c1, c2) → ∀ s : kS, mS σ s → s.1 0 27 = 0 → Q (pWh c0 c1 c2 which (mEnv σ)) s) : wX5_read (nI t) (nI which) σ Q := by
  intro s1 e1
  refine ⟨k_idx ht (by decide), fun s2 e2 s3 e3 s4 e4 s5 e5 => ?_⟩
  rw [show (160 : Int32) * nI t = nI (160 * t) from pk_mul 160 t] at e1
  rw [k_cl (by omega)] at e2
  have o5 : mS σ s5 := by
    refine ⟨fun p hp => ?_, fun k hk => ?_⟩
    · rw [e5, kset_off hp, e4, kset_off hp, e3, kset_off hp, e2, kset_off hp, e1, kset_off hp]
    · rw [e5, kset_ne (by omega), e4, kset_ne (by omega), e3, kset_ne (by omega), e2, kset_ne (by omega), e1, kset_ne (by omega)]
  have T5 : mTp T N (160 * t) s5 := by
    refine ⟨hN, by omega, ?_, ?_, fun j hj => ?_⟩
    · rw [e5, kset_ne (by decide), e4, kset_ne (by decide), e3, kset_ne (by decide), e2, kset_ne (by decide), e1, kset_at]
    · rw [e5, kset_ne (by decide), e4, kset_ne (by decide), e3, kset_ne (by decide), e2, kset_at, e1, kset_off (by decide)]
      exact hsz
    · rw [o5.1 1 (by decide)]
      exact hb j hj
  have n5 : s5.1 0 22 = nI 0 := by rw [e5, kset_ne (by decide), e4, kset_ne (by decide), e3, kset_at]; rfl
  have op5 : s5.1 0 26 = 0 := by rw [e5, kset_ne (by decide), e4, kset_at]
  have b5 : s5.1 0 27 = 0 := by rw [e5, kset_at]
  have env5 : mEnv s5 = mEnv σ := by
    funext k
    match k with
    | 0 => exact o5.2 14 (by decide)
    | 1 => exact o5.2 15 (by decide)
    | 2 => exact o5.2 16 (by decide)
    | 3 => exact o5.2 17 (by decide)
    | 4 => exact o5.2 18 (by decide)
    | (k + 5) => exact o5.2 19 (by decide)
  have fin : ∀ s : kS, mFr s5 s → mS σ s := fun s os => ⟨fun p hp => (os.1 p hp).trans (o5.1 p hp), fun k hk => (os.2 k (by omega) (by omega) (by omega) (by omega) (by omega)).trans (o5.2 k hk)⟩
  have dead : ∀ (f : Nat), (pText T N).2 = none → (pText T N).1 = f → ∀ (s : kS) (p q r : Int32), mFr s5 s → mDd f s → wX5_read_128 Q (nI which) p q r s := by
    intro f hn hf s p q r os ds
    rw [hf] at h0
    exact ⟨fun _ => m_148 hw (fun _ => h0 hn s p (fin s os) ds) (fun _ => h0 hn s q (fin s os) ds) (fun _ => h0 hn s r (fin s os) ds), fun y => absurd y ds.n⟩
  refine m_next T5 (Nat.zero_le N) n5 (fun s6 o6 p6 t6 => ?_)
  have a6 : mAt T N (160 * t) 0 s6 := ⟨T5.nf o6, by rw [o6.2 27 (by decide) (by decide) (by decide)]; exact b5, p6, t6⟩
  have far0 := pFar_part (T := T) (w := 0) (Nat.zero_le N)
  refine m_part (w := 0) hN (by decide) (Nat.zero_le N) a6 (by rw [o6.f.k26]; exact op5) ⟨fun e s v os ds => ⟨fun y => absurd y ds.n, fun _ => ⟨fun y => absurd y ds.n, fun _ => ?_⟩⟩, fun c0 e s os as => ⟨fun _ => ?_, fun y => absurd as.2.1 y⟩⟩
  · exact dead _ (by rw [show pText T N = _ from pText0_n e]) (by rw [show pText T N = _ from pText0_n e]) s _ _ _ (o6.f.tr os) ds
  · have et0 : pText T N = pText1 T N c0 (pPart T N 1 (pPart T N 0 0).1) := pText0_s e
    have far1 := pFar_part (T := T) (w := 1) far0.1
    have of0 := o6.f.tr os
    refine m_part (w := 1) hN (by decide) far0.1 as (by rw [of0.k26]; exact op5) ⟨fun e1' u v ou du => ⟨fun y => absurd y du.n, fun _ => ?_⟩, fun c1 e1' u ou au => ⟨fun _ => ?_, fun y => absurd au.2.1 y⟩⟩
    · have et1 : pText T N = ((pPart T N 1 (pPart T N 0 0).1).1, none) := et0.trans (pText1_n e1')
      exact dead _ (by rw [et1]) (by rw [et1]) u _ _ _ (of0.tr ou) du
    · have et1 : pText T N = pText2 T N c0 c1 (pPart T N 2 (pPart T N 1 (pPart T N 0 0).1).1) := et0.trans (pText1_s e1')
      have far2 := pFar_part (T := T) (w := 2) far1.1
      have of1 := of0.tr ou
      refine m_part (w := 2) hN (by decide) far1.1 au (by rw [of1.k26]; exact op5) ⟨fun e2' x v ox dx => ?_, fun c2 e2' x ox ax => ⟨fun y => absurd ax.2.1 y, fun _ => ?_⟩⟩
      · have et2 : pText T N = ((pPart T N 2 (pPart T N 1 (pPart T N 0 0).1).1).1, none) := et1.trans (pText2_n e2')
        exact dead _ (by rw [et2]) (by rw [et2]) x _ _ _ (of1.tr ox) dx
      · have et2 := et1.trans (pText2_s (T := T) (N := N) (c0 := c0) (c1 := c1) e2')
        have of2 := of1.tr ox
        obtain ⟨-, -, w0⟩ := ax.word
        have ev0 : mEnv s6 = mEnv σ := by rw [o6.f.env, env5]
        have ev1 : mEnv s = mEnv σ := by rw [os.env, ev0]
        have ev2 : mEnv u = mEnv σ := by rw [ou.env, ev1]
        rw [ev0, ev1, ev2]
        by_cases hz : lC T N (pPart T N 2 (pPart T N 1 (pPart T N 0 0).1).1).1 = 0
        · rw [if_pos hz] at et2
          have go := h1 c0 c1 c2 (by rw [et2]) x (fin x of2) ax.2.1
          refine ⟨fun _ => m_148 hw (fun z => ?_) (fun z => ?_) (fun z => ?_), fun y => absurd (w0.mpr hz) y⟩
          · subst z
            exact go
          · subst z
            exact go
          · subst z
            exact go
        · rw [if_neg hz] at et2
          have e0 : (pText T N).2 = none := by rw [et2]
          have e01 : (pText T N).1 = lP T N (pPart T N 2 (pPart T N 1 (pPart T N 0 0).1).1).1 := by rw [et2]
          refine ⟨fun y => absurd (w0.mp y) hz, fun _ => m_fail ax (fun y oy dy => ?_)⟩
          have dy2 : mDd (pText T N).1 y := by rw [e01]; exact dy
          exact m_148 hw (fun _ => h0 e0 y _ (fin y (of2.tr oy)) dy2) (fun _ => h0 e0 y _ (fin y (of2.tr oy)) dy2) (fun _ => h0 e0 y _ (fin y (of2.tr oy)) dy2)
