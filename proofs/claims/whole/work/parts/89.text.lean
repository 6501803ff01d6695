/-! the two programs side by side: text -/
theorem evN_hold {env f : Nat → Int32} : ∀ (l : List Int32) (m : Nat), xHold f m l → evN env f (m + l.length) = evL env l (evN env f m) := by
  intro l
  induction l with
  | nil => exact fun m _ => rfl
  | cons o l ih =>
    intro m h
    rw [show m + (o :: l).length = m + 1 + l.length by rw [List.length_cons]; omega, ih (m + 1) h.2]
    show evL env l (evStep env (f m) (evN env f m)) = evL env l (evStep env o (evN env f m))
    rw [h.1]
theorem evV_hold {env f : Nat → Int32} {l : List Int32} {v : Int32} (h : xHold f 0 l) (e : evP env 31 l v) : evV env (l.length, f) = v := by
  have e1 := evN_hold (env := env) l 0 h
  rw [Nat.zero_add] at e1
  obtain ⟨a, b, -⟩ := e (0, fun _ => 0) (by decide)
  unfold evV
  rw [e1]
  show (if (evL env l (0, fun _ => 0)).1 = 0 then 0 else (evL env l (0, fun _ => 0)).2 0) = v
  rw [a, if_neg (by decide)]
  exact b
theorem pSay_text {T : Nat → Nat} {N : Nat} {c0 c1 c2 : List Int32 × kVal} (h : (pText T N).2 = some (c0, c1, c2)) (env : Nat → Int32) : evP env 31 c0.1 (c0.2 env) ∧ evP env 31 c1.1 (c1.2 env) ∧ evP env 31 c2.1 (c2.2 env) := by
  unfold pText at h
  cases h0 : (pPart T N 0 0).2 with
  | none =>
    rw [pText0_n h0] at h
    cases h
  | some d0 =>
    rw [pText0_s h0] at h
    cases h1 : (pPart T N 1 (pPart T N 0 0).1).2 with
    | none =>
      rw [pText1_n h1] at h
      cases h
    | some d1 =>
      rw [pText1_s h1] at h
      cases h2 : (pPart T N 2 (pPart T N 1 (pPart T N 0 0).1).1).2 with
      | none =>
        rw [pText2_n h2] at h
        cases h
      | some d2 =>
        rw [pText2_s h2] at h
        by_cases hz : lC T N (pPart T N 2 (pPart T N 1 (pPart T N 0 0).1).1).1 = 0
        · rw [if_pos hz] at h
          cases h
          exact ⟨pSay_part _ h0 env, pSay_part _ h1 env, pSay_part _ h2 env⟩
        · rw [if_neg hz] at h
          cases h
theorem m_textL {n tc : Nat} {σ : kS} {Q : Int32 → kS → Prop} (hn : n ≤ 160) (htc : tc < 6) (e3 : σ.1 0 3 = nI tc) (e6 : σ.1 0 6 = nI n)
    (h : ∀ s : kS, (∀ p : Nat, p ≠ 0 → p ≠ 1 → p ≠ 2 → s.1 p = σ.1 p) → (∀ k : Nat, k ≠ 6 → s.1 0 k = σ.1 0 k) → s.1 0 6 = 0 → s.1 2 tc = nI n → (∀ j : Nat, j ≠ tc → s.1 2 j = σ.1 2 j) → (∀ j : Nat, j < n → s.1 1 (160 * tc + j) = σ.1 3 j) → (∀ x : Nat, (x < 160 * tc ∨ 160 * tc + 160 ≤ x) → s.1 1 x = σ.1 1 x) →
      wX5_read (nI tc) (0 : Int32) s (fun r6 s5 => ((s5.1 0 27) = 0 → ∀ s8 : kS, s8 = kset s5 0 3 ((s5.1 0 3) + (1 : Int32)) → Q ((s8.1 0 3) - (1 : Int32)) s8) ∧ (¬ (s5.1 0 27) = 0 → Q ((-100 : Int32) - (s5.1 0 28)) s5))) : wX5_text_14 Q (0 : Int32) σ := by
  intro P hP
  suffices key : ∀ r i : Nat, i + r = n → ∀ u : kS, (∀ p : Nat, p ≠ 1 → u.1 p = σ.1 p) → (∀ j : Nat, j < i → u.1 1 (160 * tc + j) = σ.1 3 j) → (∀ x : Nat, (x < 160 * tc ∨ 160 * tc + 160 ≤ x) → u.1 1 x = σ.1 1 x) → P u (nI i) from key n 0 (by omega) σ (fun _ _ => rfl) (fun j hj => absurd hj (by omega)) (fun _ _ => rfl)
  intro r
  induction r with
  | zero =>
    intro i hi u k1 k2 k3
    have e : i = n := by omega
    subst e
    have u3 : u.1 0 3 = nI tc := by rw [k1 0 (by decide)]; exact e3
    have u6 : u.1 0 6 = nI i := by rw [k1 0 (by decide)]; exact e6
    refine hP _ _ ⟨fun _ => ⟨by rw [u3]; exact k_idx htc (by decide), fun s3 f3 s4 f4 => ?_⟩, fun q => absurd (by rw [u6]; exact Int32.le_refl _) q⟩
    rw [u3, u6, k_cl (by omega)] at f3
    have s43 : s4.1 0 3 = nI tc := by rw [f4, kset_ne (by decide), f3, kset_off (by decide)]; exact u3
    rw [s43]
    refine h s4 (fun p p0 p1 p2 => ?_) (fun k hk => ?_) ?_ ?_ (fun j hj => ?_) (fun j hj => ?_) (fun x hx => ?_)
    · rw [f4, kset_off p0, f3, kset_off p2, k1 p p1]
    · rw [f4, kset_ne hk, f3, kset_off (by decide), k1 0 (by decide)]
    · rw [f4, kset_at]
    · rw [f4, kset_off (by decide), f3, kset_at]
    · rw [f4, kset_off (by decide), f3, kset_ne hj, k1 2 (by decide)]
    · rw [f4, kset_off (by decide), f3, kset_off (by decide)]
      exact k2 j hj
    · rw [f4, kset_off (by decide), f3, kset_off (by decide)]
      exact k3 x hx
  | succ r ih =>
    intro i hi u k1 k2 k3
    have u3 : u.1 0 3 = nI tc := by rw [k1 0 (by decide)]; exact e3
    have u6 : u.1 0 6 = nI n := by rw [k1 0 (by decide)]; exact e6
    refine hP _ _ ⟨fun q => absurd q (by rw [u6]; exact nI_ge (by omega) (by omega)), fun _ => ⟨k_idx (by omega) (by decide), ?_⟩⟩
    rw [u3, show (160 : Int32) * nI tc = nI (160 * tc) from pk_mul 160 tc, nI_add, k_cl (by omega), k_cl (by omega)]
    refine ⟨k_idx (by omega) (by decide), fun s9 e9 x ex => ?_⟩
    rw [k1 3 (by decide)] at e9
    rw [ex, k_n1]
    refine ih (i + 1) (by omega) s9 (fun p hp => by rw [e9, kset_off hp, k1 p hp]) (fun j hj => ?_) (fun x hx => ?_)
    · by_cases q : j = i
      · subst q
        rw [e9, kset_at]
      · rw [e9, kset_ne (by omega)]
        exact k2 j (by omega)
    · rw [e9, kset_ne (by omega)]
      exact k3 x hx
/-- a call of text: of both -/
def kSimT (tx : List kTxt) (σm : kS) : Int32 → Option kPt3 → kS → Prop := fun r o s => wX5_text σm (fun r' s' => r' = r ∧ (o = none → kInv tx s s') ∧ ∀ c : kPt3, o = some c → ∀ T : kTxt, T.2.1.2 = c.1 → T.2.2.1.2 = c.2.1 → T.2.2.2.2 = c.2.2 → kInv (tx ++ [T]) s s')
theorem sW_old {tx : List kTxt} {T : kTxt} {t : Nat} (h : t < tx.length) : sW (tx ++ [T]) t = sW tx t := by
  unfold sW
  rw [List.getElem?_append_left h]
theorem sW_new {tx : List kTxt} {T : kTxt} : sW (tx ++ [T]) tx.length = xV T := by
  unfold sW
  rw [show (tx ++ [T])[tx.length]? = some T by simp]
theorem s_text {tx : List kTxt} {σx σm : kS} (hI : kInv tx σx σm) : wX4_text tx.length σx (kSimT tx σm) := by
  have hI0 := hI
  obtain ⟨a1, a2, a3, a4, a5, a6, a7, ⟨n, t1, t2, t3, t4⟩, a9⟩ := hI
  have hlen := a1.2.2.1
  refine ⟨fun q => ?_, fun q => ?_⟩
  · have htc : tx.length < 6 := by
      rw [a1.1] at q
      exact (nI_ltI (b := 6) (by omega) (by decide)).mp q
    -- the bytes
    have hby : ∀ j : Nat, j < n → σx.1 31 j = nI (σx.1 31 j).toNatClampNeg ∧ (σx.1 31 j).toNatClampNeg < 256 := by
      intro j hj
      obtain ⟨-, b0, b1⟩ := t4 j hj
      obtain ⟨m, hm, e⟩ := nI_of2 (x := σx.1 31 j) (M := 255) (n := 255) (by decide) (Int32.not_lt.mpr b0) b1
      rw [e, k_cl (by omega)]
      exact ⟨rfl, by omega⟩
    have hT : xTp (fun j => (σx.1 31 j).toNatClampNeg) n σx := ⟨t1, t2, hby⟩
    have hbm : ∀ s : kS, (∀ j : Nat, j < n → s.1 1 (160 * tx.length + j) = σm.1 3 j) → ∀ j : Nat, j < n → s.1 1 (160 * tx.length + j) = nI (σx.1 31 j).toNatClampNeg ∧ (σx.1 31 j).toNatClampNeg < 256 := by
      intro s hs j hj
      rw [hs j hj, (t4 j hj).1]
      exact hby j hj
    have c13 : σm.1 0 3 ≠ (6 : Int32) := fun z => by
      rw [a3] at z
      have := (nI_eq (b := 6) (by omega) (by decide)).mp z
      omega
    -- texts that stood there
    have old : ∀ s s' : kS, (∀ j : Nat, j ≠ tx.length → s.1 2 j = σm.1 2 j) → (∀ x : Nat, (x < 160 * tx.length ∨ 160 * tx.length + 160 ≤ x) → s.1 1 x = σm.1 1 x) → s'.1 1 = s.1 1 → s'.1 2 = s.1 2 → ∀ t : Nat, t < tx.length → mTx (s'.1 1) (s'.1 2) t (sW tx t) := by
      intro s s' k5 k7 e1 e2 t ht
      refine (a2.2 t ht).mv (fun j hj => ?_) ?_
      · rw [e1]
        exact k7 _ (by omega)
      · rw [e2]
        exact k5 t (by omega)
    refine x_read hT (fun hn hf sx ox fx6 fx1 => ⟨fun _ => ?_, fun c e => (by cases e)⟩) (fun c0 c1 c2 hs hl sx ox fx1 g0 g1 g2 h0 h1 h2 => ⟨fun e => (by cases e), fun c e => ?_⟩)
    · unfold wX1_fault kSimT
      rw [fx6]
      refine ⟨fun _ => m_textL t1 htc a3 t3 (fun s k1 k2 k3 k4 k5 k6 k7 => ?_), fun z => absurd z c13⟩
      refine m_read (which := 0) (T := fun j => (σx.1 31 j).toNatClampNeg) htc t1 k4 (hbm s k6) (by decide) (fun _ s5 v o5 d5 => ⟨fun z => absurd z d5.n, fun _ => ⟨by rw [d5.2], fun _ => ?_, fun c e => (by cases e)⟩⟩) (fun c0 c1 c2 hs => by rw [hn] at hs; cases hs)
      refine hI0.gen (fun p hp => ox.1 p (by omega) (by omega)) (by rw [ox.1 0 (by decide) (by decide)]) (fun p hp => by rw [o5.1 p (by omega), k1 p (by omega) (by omega) (by omega)]) (fun k hk3 hk6 hk => by rw [o5.2 k (by omega), k2 k hk6]) (Nat.le_refl _) ?_ ⟨a2.1, fun t ht => old s s5 k5 k7 (o5.1 1 (by decide)) (o5.1 2 (by decide)) t ht⟩ ?_ ⟨0, by decide, fx1, ?_, fun j hj => absurd hj (by omega)⟩
      · refine ⟨?_, a1.2⟩
        rw [ox.1 0 (by decide) (by decide)]
        exact a1.1
      · rw [o5.2 3 (by omega), k2 3 (by decide)]
        exact a3
      · rw [o5.2 6 (by omega)]
        exact k3
    · cases e
      have x5 : sx.1 0 5 = nI tx.length := by rw [ox.1 0 (by decide) (by decide)]; exact a1.1
      rw [x5, k_cl (by omega)]
      refine ⟨k_idx htc (by decide), rfl, fun sy ey => ?_⟩
      rw [k_n1] at ey
      have y5 : sy.1 0 5 = nI (tx.length + 1) := by rw [ey, kset_at]
      rw [y5, nI_pred]
      unfold kSimT
      refine ⟨fun _ => m_textL t1 htc a3 t3 (fun s k1 k2 k3 k4 k5 k6 k7 => ?_), fun z => absurd z c13⟩
      refine m_read (which := 0) (T := fun j => (σx.1 31 j).toNatClampNeg) htc t1 k4 (hbm s k6) (by decide) (fun hn => by rw [hn] at hs; cases hs) (fun d0 d1 d2 hd s5 o5 b5 => ⟨fun _ s8 e8 => ?_, fun z => absurd b5 z⟩)
      have s53 : s5.1 0 3 = nI tx.length := by rw [o5.2 3 (by omega), k2 3 (by decide)]; exact a3
      rw [s53, k_n1] at e8
      have s83 : s8.1 0 3 = nI (tx.length + 1) := by rw [e8, kset_at]
      refine ⟨by rw [s83, nI_pred], fun e => (by cases e), fun c e T r0 r1 r2 => ?_⟩
      cases e
      have hV : ∀ part : Nat, part < 3 → ∀ env : Nat → Int32, xV T part env = pWh c0 c1 c2 part env := by
        intro part hp env
        obtain ⟨p0, p1, p2⟩ := pSay_text hs env
        unfold xV pWh
        rcases (by omega : part = 0 ∨ part = 1 ∨ part = 2) with z | z | z <;> subst z
        · show evV env T.2.1.2 = c0.2 env
          rw [r0]
          exact evV_hold h0 p0
        · show evV env T.2.2.1.2 = c1.2 env
          rw [r1]
          exact evV_hold h1 p1
        · show evV env T.2.2.2.2 = c2.2 env
          rw [r2]
          exact evV_hold h2 p2
      have hTok : tOk T := by
        intro part hp
        rcases (by omega : part = 0 ∨ part = 1 ∨ part = 2) with z | z | z <;> subst z
        · show T.2.1.2.1 ≤ 160
          rw [r0]
          exact hl c0 (Or.inl rfl)
        · show T.2.2.1.2.1 ≤ 160
          rw [r1]
          exact hl c1 (Or.inr (Or.inl rfl))
        · show T.2.2.2.2.1 ≤ 160
          rw [r2]
          exact hl c2 (Or.inr (Or.inr rfl))
      have ln : (tx ++ [T]).length = tx.length + 1 := by simp
      have s81 : s8.1 1 = s.1 1 := by rw [e8, kset_off (by decide)]; exact o5.1 1 (by decide)
      have s82 : s8.1 2 = s.1 2 := by rw [e8, kset_off (by decide)]; exact o5.1 2 (by decide)
      refine hI0.gen (fun p hp => ?_) ?_ (fun p hp => ?_) (fun k hk3 hk6 hk => ?_) (by omega) ⟨?_, ?_, ?_, fun t T' ht => ?_⟩ ⟨?_, fun t ht => ?_⟩ ?_ ⟨0, by decide, ?_, ?_, fun j hj => absurd hj (by omega)⟩
      · rw [ey, kset_off (by omega)]
        exact ox.1 p (by omega) (by omega)
      · rw [ey, kset_ne (by decide), ox.1 0 (by decide) (by decide)]
      · rw [e8, kset_off (by omega), o5.1 p (by omega), k1 p (by omega) (by omega) (by omega)]
      · rw [e8, kset_ne hk3, o5.2 k (by omega), k2 k hk6]
      · rw [y5, ln]
      · rw [ln]
        omega
      · rw [ln]
        omega
      · rcases Nat.lt_or_ge t tx.length with z | z
        · rw [List.getElem?_append_left z] at ht
          exact a1.2.2.2 t T' ht
        · have hlt : t < (tx ++ [T]).length := by
            rcases Nat.lt_or_ge t (tx ++ [T]).length with y | y
            · exact y
            · rw [List.getElem?_eq_none y] at ht
              cases ht
          have et : t = tx.length := by omega
          subst et
          have : (tx ++ [T])[tx.length]? = some T := by simp
          rw [this] at ht
          cases ht
          exact hTok
      · rw [ln]
        omega
      · rw [ln] at ht
        rcases Nat.lt_or_ge t tx.length with z | z
        · rw [sW_old z]
          exact old s s8 k5 k7 s81 s82 t z
        · have et : t = tx.length := by omega
          subst et
          rw [sW_new]
          intro τ e1 e2 which hw Q hQ
          have b1 : ∀ j : Nat, j < n → τ.1 1 (160 * tx.length + j) = nI (σx.1 31 j).toNatClampNeg ∧ (σx.1 31 j).toNatClampNeg < 256 := by
            intro j hj
            rw [e1 j (by omega), s81]
            exact hbm s k6 j hj
          refine m_read (which := which) (T := fun j => (σx.1 31 j).toNatClampNeg) htc t1 (by rw [e2, s82]; exact k4) b1 hw (fun hn => by rw [hn] at hs; cases hs) (fun d0 d1 d2 hd s6 o6 b6 => ?_)
          rw [hs] at hd
          cases hd
          rw [← hV which hw]
          exact hQ s6 o6
      · rw [s83, ln]
      · rw [ey, kset_off (by decide)]
        exact fx1
      · rw [e8, kset_ne (by decide), o5.2 6 (by omega)]
        exact k3
  · have h6 : tx.length = 6 := by
      rcases Nat.lt_or_ge tx.length 6 with z | z
      · exact absurd (by rw [a1.1]; exact nI_lt (b := 6) z (by decide)) q
      · omega
    unfold kSimT
    exact ⟨fun z => absurd (by rw [a3, h6]; rfl) z, fun _ => ⟨rfl, fun _ => hI0, fun c e => (by cases e)⟩⟩
