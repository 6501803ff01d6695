/-! pure: a fen without what lies beside it -/
def kUse (r i : Nat) : Bool := (decide (r = 0) && decide (8 ≤ i) && decide (i ≤ 12)) || (decide (1 ≤ r) && decide (r ≤ 3) && decide (i < 12)) || (decide (4 ≤ r) && decide (r ≤ 7) && decide (i < 6))
def nf (A : kFn) : kFn := fun r i => if kUse r i = true then A r i else 0
theorem nf_at {A : kFn} {r i : Nat} (h : kUse r i = true) : nf A r i = A r i := if_pos h
theorem kUse_c {r c : Nat} (h1 : 1 ≤ r) (h2 : r ≤ 3) (h3 : c < 12) : kUse r c = true := by
  simp [kUse, h1, h2, h3]
theorem kUse_w {r w : Nat} (h1 : 4 ≤ r) (h2 : r ≤ 7) (h3 : w < 6) : kUse r w = true := by
  simp [kUse, h1, h2, h3]
theorem nf_c {A : kFn} {r c : Nat} (h1 : 1 ≤ r) (h2 : r ≤ 3) (h3 : c < 12) : nf A r c = A r c := nf_at (kUse_c h1 h2 h3)
theorem nf_w {A : kFn} {r w : Nat} (h1 : 4 ≤ r) (h2 : r ≤ 7) (h3 : w < 6) : nf A r w = A r w := nf_at (kUse_w h1 h2 h3)
theorem nf_0 {A : kFn} {i : Nat} (h1 : 8 ≤ i) (h2 : i ≤ 12) : nf A 0 i = A 0 i := nf_at (by simp [kUse, h1, h2])
theorem nf_set {A : kFn} {r i : Nat} {v : Int32} (h : kUse r i = true) : fset (nf A) r i v = nf (fset A r i v) := by
  funext p j
  unfold nf fset
  by_cases h1 : p = r
  · subst h1
    by_cases h2 : j = i
    · subst h2
      simp [h]
    · simp [h2]
  · simp [h1]
theorem nf_nf {A : kFn} : nf (nf A) = nf A := by
  funext p j
  unfold nf
  split <;> rfl
theorem nf_works {A : kFn} : sWorks (nf A) = sWorks A := by
  unfold sWorks
  rw [nf_0 (by decide) (by decide)]
theorem nf_ok {nt : Nat} {A : kFn} : sOk nt (nf A) ↔ sOk nt A := by
  constructor
  · rintro ⟨a, b, ⟨n, c1, c2⟩, d, e⟩
    have hw : sWorks A ≤ 6 := by
      rw [nf_0 (by decide) (by decide)] at c2
      unfold sWorks
      rw [c2, k_cl (by omega)]
      exact c1
    refine ⟨fun c hc => ?_, ?_, ⟨n, c1, ?_⟩, ?_, fun w hw2 => ?_⟩
    · have := a c hc
      rw [nf_c (by decide) (by decide) hc, nf_c (by decide) (by decide) hc, nf_c (by decide) (by decide) hc] at this
      exact this
    · rw [nf_0 (by decide) (by decide)] at b
      exact b
    · rw [nf_0 (by decide) (by decide)] at c2
      exact c2
    · rw [nf_0 (by decide) (by decide)] at d
      exact d
    · have := e w (by rw [nf_works]; exact hw2)
      rw [nf_w (by decide) (by decide) (by omega), nf_w (by decide) (by decide) (by omega), nf_w (by decide) (by decide) (by omega), nf_w (by decide) (by decide) (by omega)] at this
      exact this
  · intro h
    obtain ⟨h6, -⟩ := h.works
    obtain ⟨a, b, ⟨n, c1, c2⟩, d, e⟩ := h
    refine ⟨fun c hc => ?_, ?_, ⟨n, c1, ?_⟩, ?_, fun w hw => ?_⟩
    · rw [nf_c (by decide) (by decide) hc, nf_c (by decide) (by decide) hc, nf_c (by decide) (by decide) hc]
      exact a c hc
    · rw [nf_0 (by decide) (by decide)]
      exact b
    · rw [nf_0 (by decide) (by decide)]
      exact c2
    · rw [nf_0 (by decide) (by decide)]
      exact d
    · rw [nf_works] at hw
      rw [nf_w (by decide) (by decide) (by omega), nf_w (by decide) (by decide) (by omega), nf_w (by decide) (by decide) (by omega), nf_w (by decide) (by decide) (by omega)]
      exact e w hw
theorem nf_mR {nt : Nat} {A : kFn} {σ : kS} (hO : sOk nt A) : mR (nf A) σ ↔ mR A σ := by
  obtain ⟨h6, -⟩ := hO.works
  unfold mR
  rw [nf_works, nf_0 (by decide) (by decide), nf_0 (by decide) (by decide), nf_0 (by decide) (by decide), nf_0 (by decide) (by decide), nf_0 (by decide) (by decide)]
  constructor
  · rintro ⟨a, b, c⟩
    refine ⟨fun x hx => ?_, b, fun w hw => ?_⟩
    · have := a x hx
      rw [nf_c (by decide) (by decide) hx, nf_c (by decide) (by decide) hx, nf_c (by decide) (by decide) hx] at this
      exact this
    · have := c w hw
      rw [nf_w (by decide) (by decide) (by omega), nf_w (by decide) (by decide) (by omega), nf_w (by decide) (by decide) (by omega), nf_w (by decide) (by decide) (by omega)] at this
      exact this
  · rintro ⟨a, b, c⟩
    refine ⟨fun x hx => ?_, b, fun w hw => ?_⟩
    · rw [nf_c (by decide) (by decide) hx, nf_c (by decide) (by decide) hx, nf_c (by decide) (by decide) hx]
      exact a x hx
    · rw [nf_w (by decide) (by decide) (by omega), nf_w (by decide) (by decide) (by omega), nf_w (by decide) (by decide) (by omega), nf_w (by decide) (by decide) (by omega)]
      exact c w hw
theorem nf_pour {A : kFn} {c : Nat} {m : Int32} (hc : c < 12) : sPour (nf A) c m = nf (sPour A c m) := by
  unfold sPour
  rw [nf_c (by decide) (by decide) hc, nf_set (kUse_c (by decide) (by decide) hc)]
theorem nf_cnt {A : kFn} {c : Int32} : ∀ n : Nat, n ≤ 6 → sCnt (nf A) c n = sCnt A c n := by
  intro n
  induction n with
  | zero => exact fun _ => rfl
  | succ n ih =>
    intro hn
    show (if nf A 6 n = c then sCnt (nf A) c n + 1 else sCnt (nf A) c n) = (if A 6 n = c then sCnt A c n + 1 else sCnt A c n)
    rw [nf_w (by decide) (by decide) (by omega), ih (by omega)]
theorem nf_stand {nt : Nat} {A : kFn} {c : Nat} (hO : sOk nt A) : sStand (nf A) c = sStand A c := by
  unfold sStand
  rw [nf_works, nf_cnt _ hO.works.1]
theorem nf_env {A : kFn} {c : Nat} {v : Int32} (hc : c < 12) : sEnv (nf A) c v = sEnv A c v := by
  funext k
  unfold sEnv
  split
  · exact nf_c (by decide) (by decide) hc
  · exact nf_c (by decide) (by decide) hc
  · exact nf_0 (by decide) (by decide)
  · rfl
  · exact nf_c (by decide) (by decide) hc
  · rfl
theorem nf_say {V : Nat → (Nat → Int32) → Int32} {A : kFn} {p c : Nat} {v : Int32} (hc : c < 12) : sSay V (nf A) p c v = sSay V A p c v := by
  unfold sSay
  rw [nf_env hc]
theorem nf_for {nt : Nat} {f : Nat → kFn → kFn} {A : kFn} : ∀ n : Nat, (∀ i : Nat, i < n → ∀ B : kFn, sOk nt B → sWorks B = sWorks A → f i (nf B) = nf (f i B) ∧ sOk nt (f i B) ∧ sWorks (f i B) = sWorks B) → sOk nt A → kfor n f (nf A) = nf (kfor n f A) ∧ sOk nt (kfor n f A) ∧ sWorks (kfor n f A) = sWorks A := by
  intro n
  induction n with
  | zero => exact fun _ h => ⟨rfl, h, rfl⟩
  | succ n ih =>
    intro h hA
    obtain ⟨e1, e2, e3⟩ := ih (fun i hi => h i (by omega)) hA
    obtain ⟨k1, k2, k3⟩ := h n (by omega) (kfor n f A) e2 e3
    refine ⟨?_, k2, k3.trans e3⟩
    show f n (kfor n f (nf A)) = nf (f n (kfor n f A))
    rw [e1, k1]
theorem sWorks_set {A : kFn} {r i : Nat} {v : Int32} (h : r ≠ 0) : sWorks (fset A r i v) = sWorks A := by
  unfold sWorks fset
  rw [if_neg (fun e => h e.symm)]
theorem nf_rain {nt : Nat} {V : Nat → (Nat → Int32) → Int32} {A : kFn} (hO : sOk nt A) : sRain V (nf A) = nf (sRain V A) := by
  refine (nf_for (nt := nt) (A := A) 12 (fun c hc B hB hW => ⟨?_, sPour_ok hB hc ?_, sWorks_set (by decide)⟩) hO).1
  · show sPour (nf B) c (sSay V (nf B) 0 c (sStand (nf B) c)) = _
    rw [nf_stand hB, nf_say hc, nf_pour hc]
  · have := sSay_in (V := V) (A := B) (p := 0) (c := c) (num := sStand B c) (by decide)
    have hw := (hB.1 c hc).2.2
    generalize sSay V B 0 c (sStand B c) = m at this ⊢
    generalize B 3 c = w at hw ⊢
    grind
theorem nf_heldN {A : kFn} {c : Nat} : ∀ n : Nat, n ≤ 6 → sHeldN (nf A) c n = sHeldN A c n := by
  intro n
  induction n with
  | zero => exact fun _ => rfl
  | succ n ih =>
    intro hn
    show ((decide (nf A 7 n = 1) && decide (nf A 4 n = 5) && decide (nf A 6 n = nI c)) || sHeldN (nf A) c n) = _
    rw [nf_w (by decide) (by decide) (by omega), nf_w (by decide) (by decide) (by omega), nf_w (by decide) (by decide) (by omega), ih (by omega)]
    rfl
theorem nf_held {nt : Nat} {A : kFn} {c : Nat} (hO : sOk nt A) : sHeld (nf A) c = sHeld A c := by
  unfold sHeld
  rw [nf_works, nf_heldN _ hO.works.1]
theorem nf_flow1 {nt : Nat} {A : kFn} {c : Nat} (hO : sOk nt A) (hc : c < 12) : sFlow1 (nf A) c = nf (sFlow1 A c) := by
  unfold sFlow1
  rw [nf_c (by decide) (by decide) hc, nf_c (by decide) (by decide) hc, nf_c (by decide) (by decide) (by omega), nf_c (by decide) (by decide) (by omega), nf_held hO]
  split
  · rw [nf_set (kUse_c (by decide) (by decide) hc), nf_pour (by omega)]
  · rfl
theorem nf_river {nt : Nat} {A : kFn} (hO : sOk nt A) : sRiver (nf A) = nf (sRiver A) := by
  unfold sRiver
  rw [nf_c (by decide) (by decide) (by decide), nf_c (by decide) (by decide) (by decide), nf_0 (by decide) (by decide), nf_held hO]
  split
  · rw [nf_set (kUse_c (by decide) (by decide) (by decide))]
  · split
    · rfl
    · rw [nf_pour (by decide)]
theorem nf_flow {nt : Nat} {A : kFn} (hO : sOk nt A) : sFlow (nf A) = nf (sFlow A) := by
  have e := nf_for (nt := nt) (f := fun i B => sFlow1 B (11 - i)) (A := A) 11 (fun c hc B hB hW => ⟨nf_flow1 hB (by omega), sFlow1_ok hB (by omega) (by omega), ?_⟩) hO
  · unfold sFlow
    rw [e.1, nf_river e.2.1]
  · unfold sWorks
    rw [sFlow1_rule]
theorem nf_want {A : kFn} {w c : Nat} (hw : w < 6) (hc : c < 12) : sWant (nf A) w c = sWant A w c := by
  unfold sWant
  rw [nf_w (by decide) (by decide) hw, nf_w (by decide) (by decide) hw, nf_c (by decide) (by decide) hc, nf_c (by decide) (by decide) hc, nf_0 (by decide) (by decide), nf_0 (by decide) (by decide)]
theorem nf_drawFrom {A : kFn} {w : Nat} {c : Int32} (hw : w < 6) : sDrawFrom (nf A) w c = nf (sDrawFrom A w c) := by
  unfold sDrawFrom
  split
  · rfl
  · split
    · rfl
    · have hc : c.toNatClampNeg < 12 := by
        have h1 : ¬ c < 0 := by assumption
        have h2 : ¬ 12 ≤ c := by assumption
        rw [Int32.lt_iff_toInt_lt] at h1
        rw [Int32.le_iff_toInt_le] at h2
        have e0 : (0 : Int32).toInt = 0 := by decide
        have e1 : (12 : Int32).toInt = 12 := by decide
        rw [e0] at h1
        rw [e1] at h2
        show c.toInt.toNat < 12
        omega
      unfold sDraw
      rw [nf_want hw hc, nf_c (by decide) (by decide) hc, nf_set (kUse_c (by decide) (by decide) hc)]
