/-! what holds between the two programs at the start -/
def kTn (j : Nat) : Nat := [114, 97, 105, 110, 115, 32, 54, 32, 59, 32, 115, 104, 114, 105, 110, 107, 115, 32, 50, 32, 59, 32, 99, 97, 108, 108, 115, 32, 51, 32, 59, 32].getD j 0
theorem kT0_codes : ((pText kTn 32).2.map fun c => (c.1.1, c.2.1.1, c.2.2.1)) = some ([6], [2], [3]) := by decide +kernel
theorem kT0_is : ∃ c0 c1 c2 : List Int32 × kVal, (pText kTn 32).2 = some (c0, c1, c2) ∧ c0.1 = [6] ∧ c1.1 = [2] ∧ c2.1 = [3] := by
  have h := kT0_codes
  cases e : (pText kTn 32).2 with
  | none =>
    rw [e] at h
    cases h
  | some c =>
    rw [e] at h
    obtain ⟨c0, c1, c2⟩ := c
    have h2 := Option.some.inj h
    exact ⟨c0, c1, c2, rfl, congrArg (fun z => z.1) h2, congrArg (fun z => z.2.1) h2, congrArg (fun z => z.2.2) h2⟩
theorem kTb_n : ∀ j : Nat, j < 32 → kTb j = nI (kTn j) ∧ kTn j < 256 := by decide +kernel
theorem kT0_says {t r0 r1 r2 : Nat} : mTx (mS0.1 1) (mS0.1 2) 0 (xV (kT0 t r0 r1 r2)) := by
  obtain ⟨c0, c1, c2, hp, d0, d1, d2⟩ := kT0_is
  have ev := fun env => pSay_text hp env
  have hv : ∀ (which : Nat) (env : Nat → Int32), which < 3 → pWh c0 c1 c2 which env = xV (kT0 t r0 r1 r2) which env := by
    intro which env hw
    obtain ⟨v0, v1, v2⟩ := ev env
    rw [d0] at v0
    rw [d1] at v1
    rw [d2] at v2
    obtain rfl | rfl | rfl : which = 0 ∨ which = 1 ∨ which = 2 := by omega
    · exact (evV_hold (f := kRw 6) (l := [6]) ⟨rfl, trivial⟩ v0).symm
    · exact (evV_hold (f := kRw 2) (l := [2]) ⟨rfl, trivial⟩ v1).symm
    · exact (evV_hold (f := kRw 3) (l := [3]) ⟨rfl, trivial⟩ v2).symm
  intro σ h1 h2 which hw Q hQ
  refine m_read (T := kTn) (N := 32) (t := 0) (by omega) (by omega) (h2.trans rfl) (fun j hj => ?_) hw (fun hn => ?_) (fun e0 e1 e2 he s hs _ => ?_)
  · have e := h1 j (by omega)
    have e : σ.1 1 (160 * 0 + j) = kTb (160 * 0 + j) := e
    rw [e, Nat.mul_zero, Nat.zero_add]
    exact kTb_n j hj
  · rw [hp] at hn
    cases hn
  · rw [hp] at he
    obtain ⟨rfl, rfl, rfl⟩ : c0 = e0 ∧ c1 = e1 ∧ c2 = e2 := by
      have h := Option.some.inj he
      exact ⟨congrArg (fun z => z.1) h, congrArg (fun z => z.2.1) h, congrArg (fun z => z.2.2) h⟩
    have := hQ s hs
    rw [← hv which (mEnv σ) hw] at this
    exact this
theorem kUp_at {n c : Nat} {v : Int32} (h : c < n) : kUp n v c = v := if_pos h
theorem kInv_0 {t r0 r1 r2 : Nat} : kInv [kT0 t r0 r1 r2] xS0 mS0 := by
  have f1 : ∀ c : Nat, c < 12 → fx 3 xS0 1 c = 40 := fun c hc => kUp_at (n := 12) (v := 40) hc
  have f2 : ∀ c : Nat, c < 12 → fx 3 xS0 2 c = 20 := fun c hc => kUp_at (n := 12) (v := 20) hc
  have f3 : ∀ c : Nat, c < 12 → fx 3 xS0 3 c = 5 := fun c hc => kUp_at (n := 12) (v := 5) hc
  have w0 : sWorks (fx 3 xS0) = 0 := rfl
  refine ⟨⟨rfl, by simp, by simp, fun j T hj => ?_⟩, ⟨by simp, fun j hj => ?_⟩, rfl, ⟨fun c hc => ?_, ⟨by decide, by decide⟩, ⟨0, by omega, rfl⟩, ⟨0, by simp, rfl⟩, fun w hw => ?_⟩, ⟨fun c hc => ?_, ⟨rfl, rfl, rfl, rfl, rfl⟩, fun w hw => ?_⟩, ⟨by decide, by decide⟩, Or.inl ⟨rfl, rfl⟩, ⟨0, by omega, rfl, rfl, fun j hj => absurd hj (Nat.not_lt_zero j)⟩, fun s hs => Or.inl ⟨?_, rfl⟩⟩
  · match j, hj with
    | 0, hj =>
      cases hj
      intro p hp
      obtain rfl | rfl | rfl : p = 0 ∨ p = 1 ∨ p = 2 := by omega
      · exact Nat.le_of_ble_eq_true rfl
      · exact Nat.le_of_ble_eq_true rfl
      · exact Nat.le_of_ble_eq_true rfl
    | _ + 1, hj => cases hj
  · have e : j = 0 := by
      have : [kT0 t r0 r1 r2].length = 1 := rfl
      omega
    subst e
    exact kT0_says
  · rw [f1 c hc, f2 c hc, f3 c hc]
    decide
  · rw [w0] at hw
    exact absurd hw (Nat.not_lt_zero w)
  · rw [nf_at (kUse_c (by omega) (by omega) hc), nf_at (kUse_c (by omega) (by omega) hc), nf_at (kUse_c (by omega) (by omega) hc), f1 c hc, f2 c hc, f3 c hc]
    show kF3 12 (3 * c) = 40 ∧ kF3 12 (3 * c + 1) = 20 ∧ kF3 12 (3 * c + 2) = 5
    refine ⟨?_, ?_, ?_⟩
    · unfold kF3
      rw [if_pos (show 3 * c < 3 * 12 by omega), if_pos (show 3 * c % 3 = 0 by omega)]
    · unfold kF3
      rw [if_pos (show 3 * c + 1 < 3 * 12 by omega), if_neg (show ¬ (3 * c + 1) % 3 = 0 by omega), if_pos (show (3 * c + 1) % 3 = 1 by omega)]
    · unfold kF3
      rw [if_pos (show 3 * c + 2 < 3 * 12 by omega), if_neg (show ¬ (3 * c + 2) % 3 = 0 by omega), if_neg (show ¬ (3 * c + 2) % 3 = 1 by omega)]
  · exact absurd hw (Nat.not_lt_zero w)
  · show kUp 4 (-1) s = -1
    exact kUp_at hs
