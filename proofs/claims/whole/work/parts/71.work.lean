/-! the two programs side by side: work -/
def sAdd (A : kFn) (k n c : Int32) : kFn := fset (fset (fset (fset (fset A 4 (sWorks A) k) 5 (sWorks A) n) 6 (sWorks A) c) 7 (sWorks A) 1) 0 11 (nI (sWorks A + 1))
theorem x_add {nt b : Nat} {l1 l2 l3 : Int32} {σ : kS} {Q : kS → Prop} (hO : sOk nt (fx b σ)) (h6 : sWorks (fx b σ) < 6) (h : ∀ s : kS, fx b s = sAdd (fx b σ) l1 l2 l3 → xO b σ s → Q s) : wX0_add b l1 l2 l3 σ Q := by
  have e11 : σ.1 b 11 = nI (sWorks (fx b σ)) := hO.works.2
  have hi : vp_in (nI (sWorks (fx b σ))) 6 := k_idx h6 (by decide)
  have on : ∀ r i : Nat, ∀ v : Int32, ∀ s : kS, 1 ≤ r → s.1 b 11 = nI (sWorks (fx b σ)) → (kset s (b + r) i v).1 b 11 = nI (sWorks (fx b σ)) := fun r i v s h1 e => by rw [kset_off (by omega)]; exact e
  refine ⟨fun q => absurd q (by rw [e11]; exact nI_ge (b := 6) h6 (by decide)), fun _ => ⟨by rw [e11]; exact hi, fun s2 e2 => ?_⟩⟩
  have n2 : s2.1 b 11 = nI (sWorks (fx b σ)) := by rw [e2]; exact on _ _ _ _ (by decide) e11
  refine ⟨by rw [n2]; exact hi, fun s3 e3 => ?_⟩
  have n3 : s3.1 b 11 = nI (sWorks (fx b σ)) := by rw [e3]; exact on _ _ _ _ (by decide) n2
  refine ⟨by rw [n3]; exact hi, fun s4 e4 => ?_⟩
  have n4 : s4.1 b 11 = nI (sWorks (fx b σ)) := by rw [e4]; exact on _ _ _ _ (by decide) n3
  refine ⟨by rw [n4]; exact hi, fun s5 e5 s6 e6 => ?_⟩
  have n5 : s5.1 b 11 = nI (sWorks (fx b σ)) := by rw [e5]; exact on _ _ _ _ (by decide) n4
  rw [e11, k_cl (by omega)] at e2
  rw [n2, k_cl (by omega)] at e3
  rw [n3, k_cl (by omega)] at e4
  rw [n4, k_cl (by omega)] at e5
  rw [n5, k_n1] at e6
  refine h s6 ?_ ?_
  · rw [e6, fx_set0, e5, fx_set (by decide), e4, fx_set (by decide), e3, fx_set (by decide), e2, fx_set (by decide)]
    rfl
  · rw [e6, e5, e4, e3, e2]
    exact ((((xO.set (by decide)).tr (xO.set (by decide))).tr (xO.set (by decide))).tr (xO.set (by decide))).tr xO.set0
theorem sAdd_works {A : kFn} {k n c : Int32} (h6 : sWorks A < 6) : sWorks (sAdd A k n c) = sWorks A + 1 := by
  unfold sAdd
  rw [show sWorks (fset (fset (fset (fset (fset A 4 (sWorks A) k) 5 (sWorks A) n) 6 (sWorks A) c) 7 (sWorks A) 1) 0 11 (nI (sWorks A + 1))) = (nI (sWorks A + 1)).toNatClampNeg from congrArg Int32.toNatClampNeg fset_at]
  exact k_cl (by omega)
theorem sAdd_ok {nt : Nat} {A : kFn} {k n c : Int32} (hO : sOk nt A) (h6 : sWorks A < 6) (hk : 0 ≤ k ∧ k ≤ 5) (hn : 0 ≤ n ∧ n ≤ 9) (hc : ∃ p : Nat, p < 12 ∧ c = nI p) : sOk nt (sAdd A k n c) := by
  have hw := sAdd_works (k := k) (n := n) (c := c) h6
  obtain ⟨a, b, c0, d, e⟩ := hO
  refine ⟨a, ?_, ⟨sWorks A + 1, h6, fset_at⟩, ?_, fun y hy => ?_⟩
  · unfold sAdd
    rw [fset_ne (by decide)]
    exact b
  · unfold sAdd
    rw [fset_ne (by decide)]
    exact d
  · rw [hw] at hy
    show (0 ≤ fset A 4 (sWorks A) k 4 y ∧ fset A 4 (sWorks A) k 4 y ≤ 5) ∧ (0 ≤ fset A 5 (sWorks A) n 5 y ∧ fset A 5 (sWorks A) n 5 y ≤ 9) ∧ (∃ p : Nat, p < 12 ∧ fset A 6 (sWorks A) c 6 y = nI p) ∧ (fset A 7 (sWorks A) 1 7 y = 0 ∨ fset A 7 (sWorks A) 1 7 y = 1)
    by_cases q : y = sWorks A
    · subst q
      rw [fset_at, fset_at, fset_at, fset_at]
      exact ⟨hk, hn, hc, Or.inr rfl⟩
    · rw [fset_ne q, fset_ne q, fset_ne q, fset_ne q]
      exact e y (by omega)
theorem nf_add {A : kFn} {k n c : Int32} (h6 : sWorks A < 6) : sAdd (nf A) k n c = nf (sAdd A k n c) := by
  unfold sAdd
  rw [nf_works, nf_set (kUse_w (by decide) (by decide) h6), nf_set (kUse_w (by decide) (by decide) h6), nf_set (kUse_w (by decide) (by decide) h6), nf_set (kUse_w (by decide) (by decide) h6), nf_set (by decide)]
/-- what one work that comes changes in the reference -/
def mC (w : Nat) (σ σ' : kS) : Prop := (∀ p : Nat, p ≠ 0 → p ≠ 5 → p ≠ 6 → σ'.1 p = σ.1 p) ∧ (∀ k : Nat, k ≠ 13 → σ'.1 0 k = σ.1 0 k) ∧ (∀ j : Nat, j < w → σ'.1 5 j = σ.1 5 j) ∧ (∀ j : Nat, j < 3 * w → σ'.1 6 j = σ.1 6 j) ∧ σ'.1 0 13 = nI (w + 1)
theorem m_comes {nt : Nat} {A : kFn} {l1 l2 l3 : Int32} {σ : kS} {Q : kS → Prop} (hO : sOk nt A) (hR : mR A σ) (h6 : sWorks A < 6) (h : ∀ s : kS, mR (sAdd A l1 l2 l3) s → mC (sWorks A) σ s → Q s) : wX5_comes l1 l2 l3 σ Q := by
  have e13 : σ.1 0 13 = nI (sWorks A) := hR.2.1.2.2.2.1.trans hO.works.2
  have on : ∀ p i : Nat, ∀ v : Int32, ∀ s : kS, p ≠ 0 → s.1 0 13 = nI (sWorks A) → (kset s p i v).1 0 13 = nI (sWorks A) := fun p i v s h1 e => by rw [kset_off (by omega)]; exact e
  refine ⟨by rw [e13]; exact k_idx h6 (by decide), fun s1 e1 => ?_⟩
  have n1 : s1.1 0 13 = nI (sWorks A) := by rw [e1]; exact on _ _ _ _ (by decide) e13
  rw [n1, n_3]
  refine ⟨k_idx (by omega) (by decide), fun s2 e2 => ?_⟩
  have n2 : s2.1 0 13 = nI (sWorks A) := by rw [e2]; exact on _ _ _ _ (by decide) n1
  rw [n2, n_31]
  refine ⟨k_idx (by omega) (by decide), fun s3 e3 => ?_⟩
  have n3 : s3.1 0 13 = nI (sWorks A) := by rw [e3]; exact on _ _ _ _ (by decide) n2
  rw [n3, n_32]
  refine ⟨k_idx (by omega) (by decide), fun s4 e4 s5 e5 => ?_⟩
  have n4 : s4.1 0 13 = nI (sWorks A) := by rw [e4]; exact on _ _ _ _ (by decide) n3
  rw [e13, k_cl (by omega)] at e1
  rw [k_cl (by omega)] at e2 e3 e4
  rw [n4, k_n1] at e5
  have p4 : s5.1 4 = σ.1 4 := by rw [e5, kset_off (by decide), e4, kset_off (by decide), e3, kset_off (by decide), e2, kset_off (by decide), e1, kset_off (by decide)]
  have z : ∀ k : Nat, k ≠ 13 → s5.1 0 k = σ.1 0 k := fun k hk => by rw [e5, kset_ne hk, e4, kset_off (by decide), e3, kset_off (by decide), e2, kset_off (by decide), e1, kset_off (by decide)]
  have z13 : s5.1 0 13 = nI (sWorks A + 1) := by rw [e5, kset_at]
  have f5 : ∀ j : Nat, j ≠ sWorks A → s5.1 5 j = σ.1 5 j := fun j hj => by rw [e5, kset_off (by decide), e4, kset_off (by decide), e3, kset_off (by decide), e2, kset_off (by decide), e1, kset_ne hj]
  have f5w : s5.1 5 (sWorks A) = l1 := by rw [e5, kset_off (by decide), e4, kset_off (by decide), e3, kset_off (by decide), e2, kset_off (by decide), e1, kset_at]
  have f6 : ∀ j : Nat, j ≠ 3 * sWorks A → j ≠ 3 * sWorks A + 1 → j ≠ 3 * sWorks A + 2 → s5.1 6 j = σ.1 6 j := fun j h0 h1 h2 => by rw [e5, kset_off (by decide), e4, kset_ne h2, e3, kset_ne h1, e2, kset_ne h0, e1, kset_off (by decide)]
  have f60 : s5.1 6 (3 * sWorks A) = l2 := by rw [e5, kset_off (by decide), e4, kset_ne (by omega), e3, kset_ne (by omega), e2, kset_at]
  have f61 : s5.1 6 (3 * sWorks A + 1) = l3 := by rw [e5, kset_off (by decide), e4, kset_ne (by omega), e3, kset_at]
  have f62 : s5.1 6 (3 * sWorks A + 2) = 1 := by rw [e5, kset_off (by decide), e4, kset_at]
  obtain ⟨a, ⟨b1, b2, b3, b4, b5⟩, d⟩ := hR
  refine h s5 ⟨fun x hx => ?_, ⟨?_, ?_, ?_, ?_, ?_⟩, fun y hy => ?_⟩ ⟨fun p p0 p5 p6 => ?_, z, fun j hj => f5 j (by omega), fun j hj => f6 j (by omega) (by omega) (by omega), z13⟩
  · rw [p4]
    exact a x hx
  · rw [z 7 (by decide)]; unfold sAdd; rw [fset_ne (by decide)]; exact b1
  · rw [z 8 (by decide)]; unfold sAdd; rw [fset_ne (by decide)]; exact b2
  · rw [z 9 (by decide)]; unfold sAdd; rw [fset_ne (by decide)]; exact b3
  · rw [z13]; unfold sAdd; rw [fset_at]
  · rw [z 4 (by decide)]; unfold sAdd; rw [fset_ne (by decide)]; exact b5
  · rw [sAdd_works h6] at hy
    show s5.1 5 y = fset A 4 (sWorks A) l1 4 y ∧ s5.1 6 (3 * y) = fset A 5 (sWorks A) l2 5 y ∧ s5.1 6 (3 * y + 1) = fset A 6 (sWorks A) l3 6 y ∧ s5.1 6 (3 * y + 2) = fset A 7 (sWorks A) 1 7 y
    by_cases q : y = sWorks A
    · rw [q, fset_at, fset_at, fset_at, fset_at]
      exact ⟨f5w, f60, f61, f62⟩
    · rw [fset_ne q, fset_ne q, fset_ne q, fset_ne q, f5 y q, f6 _ (by omega) (by omega) (by omega), f6 _ (by omega) (by omega) (by omega), f6 _ (by omega) (by omega) (by omega)]
      exact d y (by omega)
  · rw [e5, kset_off p0, e4, kset_off p6, e3, kset_off p6, e2, kset_off p6, e1, kset_off p5]
theorem mC.n {w : Nat} {σ σ' : kS} (h : mC w σ σ') : mN σ σ' := ⟨fun p p0 _ p5 p6 => h.1 p p0 p5 p6, fun k _ _ _ _ k13 _ => h.2.1 k k13⟩
theorem x_isWork {l1 l2 l3 : Int32} {Q : Int32 → Prop} (h1 : ((0 ≤ l1 ∧ l1 ≤ 5) ∧ (0 ≤ l2 ∧ l2 ≤ 9) ∧ 0 ≤ l3 ∧ l3 < 12) → Q 1) (h0 : ¬ ((0 ≤ l1 ∧ l1 ≤ 5) ∧ (0 ≤ l2 ∧ l2 ≤ 9) ∧ 0 ≤ l3 ∧ l3 < 12) → Q 0) : wX4_isWork l1 l2 l3 Q := by
  refine ⟨fun q => h0 (fun z => Int32.not_le.mpr q z.1.1), fun q1 => ⟨fun q => h0 (fun z => ?_), fun q2 => ⟨fun q => h0 (fun z => Int32.not_le.mpr q z.2.1.1), fun q3 => ⟨fun q => h0 (fun z => ?_), fun q4 => ?_⟩⟩⟩⟩
  · exact absurd (Int32.le_trans q z.1.2) (by decide)
  · exact absurd (Int32.le_trans q z.2.1.2) (by decide)
  · exact x_isCell (fun z => ⟨fun y => absurd y (by decide), fun _ => h1 ⟨⟨Int32.not_lt.mp q1, by grind⟩, ⟨Int32.not_lt.mp q3, by grind⟩, z⟩⟩) (fun z => ⟨fun _ => h0 (fun y => z y.2.2), fun y => absurd rfl y⟩)
theorem m_work {nt : Nat} {A : kFn} {l1 l2 l3 : Int32} {σ : kS} {Q : Int32 → kS → Prop} (hO : sOk nt A) (hR : mR A σ) (hb : ¬ ((0 ≤ l1 ∧ l1 ≤ 5) ∧ (0 ≤ l2 ∧ l2 ≤ 9) ∧ 0 ≤ l3 ∧ l3 < 12) → Q (-2) σ) (hf : ((0 ≤ l1 ∧ l1 ≤ 5) ∧ (0 ≤ l2 ∧ l2 ≤ 9) ∧ 0 ≤ l3 ∧ l3 < 12) → ¬ sWorks A < 6 → Q (-4) σ)
    (h : ((0 ≤ l1 ∧ l1 ≤ 5) ∧ (0 ≤ l2 ∧ l2 ≤ 9) ∧ 0 ≤ l3 ∧ l3 < 12) → sWorks A < 6 → ∀ s : kS, mR (sAdd A l1 l2 l3) s → mC (sWorks A) σ s → Q (nI (sWorks A)) s) : wX5_work l1 l2 l3 σ Q := by
  have e13 : σ.1 0 13 = nI (sWorks A) := hR.2.1.2.2.2.1.trans hO.works.2
  have h6 := hO.works.1
  refine m_in32 (lo := 0) (hi := 5) (by decide) (by decide) (fun q1 => ⟨fun z => absurd z (by decide), fun _ => ?_⟩) (fun q => ⟨fun _ => hb (fun z => q z.1), fun z => absurd rfl z⟩)
  refine m_in32 (lo := 0) (hi := 9) (by decide) (by decide) (fun q2 => ⟨fun z => absurd z (by decide), fun _ => ?_⟩) (fun q => ⟨fun _ => hb (fun z => q z.2.1), fun z => absurd rfl z⟩)
  refine m_isCell (fun q3 => ⟨fun _ => ⟨fun q => ?_, fun q => ?_⟩, fun z => absurd z (by decide)⟩) (fun q => ⟨fun z => absurd rfl z, fun _ => hb (fun z => q z.2.2)⟩)
  · have hlt : sWorks A < 6 := by
      rcases Nat.lt_or_ge (sWorks A) 6 with z | z
      · exact z
      · exact absurd (by rw [e13, show sWorks A = 6 by omega]; rfl) q
    refine m_comes hO hR hlt (fun s r c => ?_)
    rw [c.2.2.2.2, nI_pred]
    exact h ⟨q1, q2, q3⟩ hlt s r c
  · refine hf ⟨q1, q2, q3⟩ (fun z => ?_)
    rw [e13] at q
    have := (nI_eq (b := 6) (by omega) (by decide)).mp q
    omega
theorem i_to12 {v : Int32} (h : 0 ≤ v ∧ v < 12) : ∃ p : Nat, p < 12 ∧ v = nI p := i_to11 ⟨h.1, by grind⟩
theorem kInv.add {tx : List kTxt} {σx σm s1 s2 : kS} {l1 l2 l3 : Int32} (hI : kInv tx σx σm) (hlt : sWorks (fx 3 σx) < 6) (hw : (0 ≤ l1 ∧ l1 ≤ 5) ∧ (0 ≤ l2 ∧ l2 ≤ 9) ∧ 0 ≤ l3 ∧ l3 < 12) (f1 : fx 3 s1 = sAdd (fx 3 σx) l1 l2 l3) (o1 : xO 3 σx s1) (r2 : mR (sAdd (nf (fx 3 σx)) l1 l2 l3) s2) (c2 : mC (sWorks (fx 3 σx)) σm s2) : kInv tx s1 s2 := by
  refine hI.now o1 c2.n (fun w hw2 => c2.2.2.1 w hw2) ?_ ?_ ?_ ?_
  · rw [f1]
    exact sAdd_ok hI.2.2.2.1 hlt hw.1 hw.2.1 (i_to12 hw.2.2)
  · rw [f1, ← nf_add hlt]
    exact r2
  · rw [f1]
    unfold kYear sAdd
    rw [fset_ne (by decide)]
    exact hI.2.2.2.2.2.1
  · rw [f1, sAdd_works hlt]
    omega
theorem s_work {tx : List kTxt} {σx σm : kS} {l1 l2 l3 : Int32} (hI : kInv tx σx σm) : wX4_work l1 l2 l3 σx (kSim tx σm (wX5_work l1 l2 l3 σm)) := by
  have hI0 := hI
  obtain ⟨a1, a2, a3, a4, a5, a6, a7, a8, a9⟩ := hI
  have hO := nf_ok.mpr a4
  have h6 := a4.works.1
  have e11 : σx.1 3 11 = nI (sWorks (fx 3 σx)) := a4.works.2
  refine x_isWork (fun hw => ⟨fun _ => ⟨fun q => ?_, fun q => ?_⟩, fun z => absurd z (by decide)⟩) (fun hw => ⟨fun z => absurd rfl z, fun _ => ?_⟩)
  · have hlt : sWorks (fx 3 σx) < 6 := by
      rw [e11] at q
      exact (nI_ltI (b := 6) (by omega) (by decide)).mp q
    refine x_add a4 hlt (fun s1 f1 o1 => ?_)
    have n1 : s1.1 3 11 = nI (sWorks (fx 3 σx) + 1) := by
      show fx 3 s1 0 11 = _
      rw [f1]
      unfold sAdd
      rw [fset_at]
    rw [n1, nI_pred]
    unfold kSim
    refine m_work hO a5 (fun z => absurd hw z) (fun _ z => absurd (by rw [nf_works]; exact hlt) z) (fun _ _ s2 r2 c2 => ?_)
    rw [nf_works] at c2 ⊢
    exact ⟨rfl, hI0.add hlt hw f1 o1 r2 c2⟩
  · unfold kSim
    refine m_work hO a5 (fun z => absurd hw z) (fun _ _ => ⟨rfl, hI0⟩) (fun _ z => ?_)
    rw [nf_works] at z
    rw [e11] at q
    exact absurd (nI_lt (b := 6) z (by decide)) q
  · unfold kSim
    exact m_work hO a5 (fun _ => ⟨rfl, hI0⟩) (fun z => absurd z hw) (fun z => absurd z hw)
