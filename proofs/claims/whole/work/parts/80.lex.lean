/-! pure: tokens of a text; the class's next -/
def lBl (b : Nat) : Bool := decide (b = 32) || decide (b = 10)
def lLe (b : Nat) : Bool := decide (97 ≤ b) && decide (b ≤ 122)
def lDi (b : Nat) : Bool := decide (48 ≤ b) && decide (b ≤ 57)
def lSi (b : Nat) : Bool := decide (b = 40) || (decide (b = 41) || (decide (b = 59) || (decide (b = 43) || (decide (b = 45) || (decide (b = 42) || (decide (b = 60) || decide (b = 61)))))))
def lGo (p : Nat → Bool) (T : Nat → Nat) (N : Nat) : Nat → Nat → Nat
  | 0, i => i
  | f + 1, i => if i < N ∧ p (T i) = true then lGo p T N f (i + 1) else i
def lRun (p : Nat → Bool) (T : Nat → Nat) (N i : Nat) : Nat := lGo p T N (N - i) i
theorem lRun_s {p : Nat → Bool} {T : Nat → Nat} {N i : Nat} (h : i < N) (hp : p (T i) = true) : lRun p T N i = lRun p T N (i + 1) := by
  unfold lRun
  rw [show N - i = (N - (i + 1)) + 1 by omega]
  exact if_pos ⟨h, hp⟩
theorem lRun_0 {p : Nat → Bool} {T : Nat → Nat} {N i : Nat} (h : ¬ (i < N ∧ p (T i) = true)) : lRun p T N i = i := by
  unfold lRun
  cases hk : N - i with
  | zero => rfl
  | succ k => exact if_neg h
/-- where a run ends -/
theorem lRun_in {p : Nat → Bool} {T : Nat → Nat} {N : Nat} : ∀ k i : Nat, i + k = N → i ≤ lRun p T N i ∧ lRun p T N i ≤ N ∧ (∀ j : Nat, i ≤ j → j < lRun p T N i → p (T j) = true) := by
  intro k
  induction k with
  | zero =>
    intro i hi
    rw [lRun_0 (by omega)]
    exact ⟨Nat.le_refl _, by omega, fun j h1 h2 => absurd h2 (by omega)⟩
  | succ k ih =>
    intro i hi
    by_cases hp : p (T i) = true
    · rw [lRun_s (by omega) hp]
      obtain ⟨h1, h2, h3⟩ := ih (i + 1) (by omega)
      refine ⟨by omega, h2, fun j j1 j2 => ?_⟩
      by_cases e : j = i
      · rw [e]
        exact hp
      · exact h3 j (by omega) j2
    · rw [lRun_0 (fun z => hp z.2)]
      exact ⟨Nat.le_refl _, by omega, fun j h1 h2 => absurd h2 (by omega)⟩
def lNum (T : Nat → Nat) (p : Nat) : Nat → Nat
  | 0 => 0
  | n + 1 => lNum T p n * 10 + T (p + n) - 48
def kWn (w : Nat) : List Nat := [[114, 97, 105, 110, 115], [115, 104, 114, 105, 110, 107, 115], [99, 97, 108, 108, 115], [111, 114], [97, 110, 100], [110, 111, 116], [104, 101, 105, 103, 104, 116], [112, 101, 97, 116], [121, 101, 97, 114], [110, 117, 109, 98, 101, 114], [119, 97, 116, 101, 114], [99, 101, 108, 108]].getD w []
def kWl (w : Nat) : Nat := (kWn w).length
def kWc (w j : Nat) : Nat := (kWn w).getD j 0
theorem kWl_in : ∀ w : Nat, w < 12 → kWl w ≤ 7 ∧ 0 < kWl w ∧ kshr (kLenS w) 0 = nI (kWl w) ∧ kSlen.getD w 0 = kWl w := by decide +kernel
theorem kWc_in : ∀ w : Nat, w < 12 → ∀ j : Nat, j < kWl w → kChr w (nI j) = nI (kWc w j) ∧ 97 ≤ kWc w j ∧ kWc w j ≤ 122 := by decide +kernel
/-- whether the first j letters of word w stand at p -/
def wMat (T : Nat → Nat) (p w : Nat) : Nat → Bool
  | 0 => true
  | j + 1 => wMat T p w j && decide (T (p + j) = kWc w j)
theorem wMat_no {T : Nat → Nat} {p w j : Nat} (h : wMat T p w j = false) : ∀ k : Nat, wMat T p w (j + k) = false := by
  intro k
  induction k with
  | zero => exact h
  | succ k ih =>
    show (wMat T p w (j + k) && _) = false
    rw [ih]
    rfl
def wEq (T : Nat → Nat) (p e w : Nat) : Bool := decide (e - p = kWl w) && wMat T p w (kWl w)
def wTok (T : Nat → Nat) (p e : Nat) : Nat → Nat
  | 0 => 1
  | w + 1 => if wEq T p e w = true then 256 + w else wTok T p e w
/-- a token that begins at p: its code, its number, its end -/
def lCp (T : Nat → Nat) (N p : Nat) : Nat :=
  if N ≤ p then 0 else if lLe (T p) = true then wTok T p (lRun lLe T N p) 12 else if lDi (T p) = true then (if lRun lDi T N p - p ≤ 4 then 2 else 1) else if lSi (T p) = true then T p else 1
def lEp (T : Nat → Nat) (N p : Nat) : Nat :=
  if N ≤ p then p else if lLe (T p) = true then lRun lLe T N p else if lDi (T p) = true then lRun lDi T N p else p + 1
def lP (T : Nat → Nat) (N i : Nat) : Nat := lRun lBl T N i
def lC (T : Nat → Nat) (N i : Nat) : Nat := lCp T N (lP T N i)
def lE (T : Nat → Nat) (N i : Nat) : Nat := lEp T N (lP T N i)
def lA (T : Nat → Nat) (N i : Nat) : Nat := lNum T (lP T N i) (lRun lDi T N (lP T N i) - lP T N i)
theorem wTok_in {T : Nat → Nat} {p e : Nat} : ∀ n : Nat, wTok T p e n = 1 ∨ ∃ w : Nat, w < n ∧ wTok T p e n = 256 + w ∧ wEq T p e w = true := by
  intro n
  induction n with
  | zero => exact Or.inl rfl
  | succ n ih =>
    by_cases q : wEq T p e n = true
    · exact Or.inr ⟨n, by omega, if_pos q, q⟩
    · have e2 : wTok T p e (n + 1) = wTok T p e n := if_neg q
      rw [e2]
      rcases ih with h | ⟨w, h1, h2, h3⟩
      · exact Or.inl h
      · exact Or.inr ⟨w, by omega, h2, h3⟩
theorem lSi_in {b : Nat} (h : lSi b = true) : b = 40 ∨ b = 41 ∨ b = 59 ∨ b = 43 ∨ b = 45 ∨ b = 42 ∨ b = 60 ∨ b = 61 := by
  simp only [lSi, Bool.or_eq_true, decide_eq_true_eq] at h
  exact h
theorem lC_in {T : Nat → Nat} {N p : Nat} : lCp T N p < 268 := by
  unfold lCp
  split
  · decide
  · split
    · rcases wTok_in (T := T) (p := p) (e := lRun lLe T N p) 12 with h | ⟨w, h1, h2, h3⟩
      · omega
      · omega
    · split
      · split <;> decide
      · split
        · rename_i h
          have := lSi_in h
          omega
        · decide
/-- where the next token lies -/
theorem lP_in {T : Nat → Nat} {N i : Nat} (hi : i ≤ N) : i ≤ lP T N i ∧ lP T N i ≤ N := by
  obtain ⟨h1, h2, h3⟩ := lRun_in (p := lBl) (T := T) (N := N) (N - i) i (by omega)
  exact ⟨h1, h2⟩
theorem lEp_in {T : Nat → Nat} {N p : Nat} (hp : p ≤ N) : p ≤ lEp T N p ∧ lEp T N p ≤ N ∧ (lCp T N p ≠ 0 → p < lEp T N p) := by
  unfold lEp
  by_cases hN : N ≤ p
  · rw [if_pos hN]
    refine ⟨Nat.le_refl _, hp, fun z => absurd ?_ z⟩
    unfold lCp
    exact if_pos hN
  · rw [if_neg hN]
    by_cases h1 : lLe (T p) = true
    · rw [if_pos h1]
      rw [lRun_s (by omega) h1]
      obtain ⟨a, b, -⟩ := lRun_in (p := lLe) (T := T) (N := N) (N - (p + 1)) (p + 1) (by omega)
      exact ⟨by omega, b, fun _ => by omega⟩
    · rw [if_neg h1]
      by_cases h2 : lDi (T p) = true
      · rw [if_pos h2]
        rw [lRun_s (by omega) h2]
        obtain ⟨a, b, -⟩ := lRun_in (p := lDi) (T := T) (N := N) (N - (p + 1)) (p + 1) (by omega)
        exact ⟨by omega, b, fun _ => by omega⟩
      · rw [if_neg h2]
        exact ⟨by omega, by omega, fun _ => by omega⟩
theorem lE_in {T : Nat → Nat} {N i : Nat} (hi : i ≤ N) : i ≤ lE T N i ∧ lE T N i ≤ N ∧ (lC T N i ≠ 0 → i + 1 ≤ lE T N i) := by
  obtain ⟨h1, h2⟩ := lP_in (T := T) hi
  obtain ⟨h3, h4, h5⟩ := lEp_in (T := T) h2
  exact ⟨Nat.le_trans h1 h3, h4, fun z => by have := h5 z; show i + 1 ≤ lEp T N (lP T N i); omega⟩
/-! the class -/
def xTp (T : Nat → Nat) (N : Nat) (σ : kS) : Prop := N ≤ 160 ∧ σ.1 30 1 = nI N ∧ ∀ j : Nat, j < N → σ.1 31 j = nI (T j) ∧ T j < 256
/-- what next may change -/
def xNf (σ σ' : kS) : Prop := (∀ p : Nat, p ≠ 30 → σ'.1 p = σ.1 p) ∧ (∀ k : Nat, k ≠ 2 → k ≠ 3 → k ≠ 4 → k ≠ 5 → σ'.1 30 k = σ.1 30 k) ∧ σ'.2 = σ.2
theorem xNf.rf {σ : kS} : xNf σ σ := ⟨fun _ _ => rfl, fun _ _ _ _ _ => rfl, rfl⟩
theorem xNf.tr {σ σ' σ'' : kS} (h : xNf σ σ') (h' : xNf σ' σ'') : xNf σ σ'' := ⟨fun p hp => (h'.1 p hp).trans (h.1 p hp), fun k k2 k3 k4 k5 => (h'.2.1 k k2 k3 k4 k5).trans (h.2.1 k k2 k3 k4 k5), h'.2.2.trans h.2.2⟩
theorem xNf.set {σ : kS} {i : Nat} {v : Int32} (hi : 2 ≤ i ∧ i ≤ 5) : xNf σ (kset σ 30 i v) := ⟨fun p hp => kset_off hp, fun k k2 k3 k4 k5 => kset_ne (by omega), rfl⟩
theorem xTp.nf {T : Nat → Nat} {N : Nat} {σ σ' : kS} (h : xTp T N σ) (ho : xNf σ σ') : xTp T N σ' := by
  refine ⟨h.1, ?_, fun j hj => ?_⟩
  · rw [ho.2.1 1 (by decide) (by decide) (by decide) (by decide)]
    exact h.2.1
  · rw [ho.1 31 (by decide)]
    exact h.2.2 j hj
theorem nI_ltB {b m : Nat} (hb : b < 256) (hm : m < 256) : (nI b < nI m) ↔ b < m := nI_ltI (by omega) (by omega)
theorem x_isLetter {b : Nat} {Q : Int32 → Prop} (hb : b < 256) (h : Q (if lLe b = true then 1 else 0)) : wX1_isLetter (nI b) Q := by
  refine ⟨fun q => ?_, fun q => ⟨fun q2 => ?_, fun q2 => ?_⟩⟩
  · have := (nI_ltI (b := 97) (by omega) (by decide)).mp q
    rw [if_neg (by simp [lLe]; omega)] at h
    exact h
  · have := (nI_ltI (a := 122) (by decide) (by omega)).mp q2
    rw [if_neg (by simp [lLe]; omega)] at h
    exact h
  · have h1 : ¬ b < 97 := fun z => q (nI_lt (b := 97) z (by decide))
    have h2 : ¬ 122 < b := fun z => q2 (nI_lt (a := 122) z (by omega))
    rw [if_pos (by simp [lLe]; omega)] at h
    exact h
theorem x_isDigit {b : Nat} {Q : Int32 → Prop} (hb : b < 256) (h : Q (if lDi b = true then 1 else 0)) : wX1_isDigit (nI b) Q := by
  refine ⟨fun q => ?_, fun q => ⟨fun q2 => ?_, fun q2 => ?_⟩⟩
  · have := (nI_ltI (b := 48) (by omega) (by decide)).mp q
    rw [if_neg (by simp [lDi]; omega)] at h
    exact h
  · have := (nI_ltI (a := 57) (by decide) (by omega)).mp q2
    rw [if_neg (by simp [lDi]; omega)] at h
    exact h
  · have h1 : ¬ b < 48 := fun z => q (nI_lt (b := 48) z (by decide))
    have h2 : ¬ 57 < b := fun z => q2 (nI_lt (a := 57) z (by omega))
    rw [if_pos (by simp [lDi]; omega)] at h
    exact h
theorem nI_eqB {b m : Nat} (hb : b < 256) (hm : m < 256) : (nI b = nI m) ↔ b = m := nI_eq (by omega) (by omega)
theorem x_isSign {b : Nat} {Q : Int32 → Prop} (hb : b < 256) (h : Q (if lSi b = true then 1 else 0)) : wX1_isSign (nI b) Q := by
  have yes : ∀ m : Nat, m < 256 → lSi m = true → nI b = nI m → Q 1 := fun m hm hs e => by
    have := (nI_eqB hb hm).mp e
    subst this
    rw [if_pos hs] at h
    exact h
  refine ⟨yes 40 (by decide) rfl, fun q1 => ⟨yes 41 (by decide) rfl, fun q2 => ⟨yes 59 (by decide) rfl, fun q3 => ⟨yes 43 (by decide) rfl, fun q4 => ⟨yes 45 (by decide) rfl, fun q5 => ⟨yes 42 (by decide) rfl, fun q6 => ⟨yes 60 (by decide) rfl, fun q7 => ⟨fun q8 => ?_, yes 61 (by decide) rfl⟩⟩⟩⟩⟩⟩⟩⟩
  have hn : ¬ lSi b = true := fun z => by
    rcases lSi_in z with e | e | e | e | e | e | e | e <;> subst e
    · exact q1 rfl
    · exact q2 rfl
    · exact q3 rfl
    · exact q4 rfl
    · exact q5 rfl
    · exact q6 rfl
    · exact q7 rfl
    · exact q8 rfl
  rw [if_neg hn] at h
  exact h
theorem x_wordOf {w : Nat} {Q : Nat → Prop} (hw : w < 12) (h : Q w) : wX1_wordOf (nI w) Q := by
  have key : ∀ m : Nat, m < 12 → nI w = nI m → Q m := fun m hm e => by
    have := (nI_eq (by omega) (by omega)).mp e
    rw [← this]
    exact h
  refine ⟨key 0 (by decide), key 1 (by decide), key 2 (by decide), key 3 (by decide), key 4 (by decide), key 5 (by decide), key 6 (by decide), key 7 (by decide), key 8 (by decide), key 9 (by decide), key 10 (by decide), fun q0 q1 q2 q3 q4 q5 q6 q7 q8 q9 q10 => key 11 (by decide) ?_⟩
  have e : w = 11 := by
    have n0 : w ≠ 0 := fun z => q0 (by rw [z]; rfl)
    have n1 : w ≠ 1 := fun z => q1 (by rw [z]; rfl)
    have n2 : w ≠ 2 := fun z => q2 (by rw [z]; rfl)
    have n3 : w ≠ 3 := fun z => q3 (by rw [z]; rfl)
    have n4 : w ≠ 4 := fun z => q4 (by rw [z]; rfl)
    have n5 : w ≠ 5 := fun z => q5 (by rw [z]; rfl)
    have n6 : w ≠ 6 := fun z => q6 (by rw [z]; rfl)
    have n7 : w ≠ 7 := fun z => q7 (by rw [z]; rfl)
    have n8 : w ≠ 8 := fun z => q8 (by rw [z]; rfl)
    have n9 : w ≠ 9 := fun z => q9 (by rw [z]; rfl)
    have n10 : w ≠ 10 := fun z => q10 (by rw [z]; rfl)
    omega
  rw [e]
/-- one word is held against the letters at hand -/
theorem x_word1 {T : Nat → Nat} {N p e w : Nat} {σ : kS} {Q : kS → Prop} {P46 : kS → Int32 → Prop} (hT : xTp T N σ) (hw : w < 12) (hpe : p ≤ e) (heN : e ≤ N) (hp : σ.1 30 4 = nI p) (hlen : e - p = kWl w) (h : ∀ s : kS, s = (if wEq T p e w = true then kset σ 30 3 (nI (256 + w)) else σ) → P46 s (nI (w + 1))) : wX1_nextWord_82 Q P46 (nI w) w (1 : Int32) (0 : Int32) σ := by
  obtain ⟨l1, l0, l2, l3⟩ := kWl_in w hw
  have hN := hT.1
  have we : wEq T p e w = wMat T p w (kWl w) := by
    unfold wEq
    rw [decide_eq_true hlen, Bool.true_and]
  have stop : ∀ b : Bool, wMat T p w (kWl w) = b → wX1_nextWord_128 Q P46 (nI w) (if b = true then 1 else 0) σ := by
    intro b hb
    rw [we, hb] at h
    cases b with
    | false =>
      refine ⟨fun _ x ex => ?_, fun z => absurd rfl z⟩
      rw [ex, k_n1]
      exact h _ rfl
    | true =>
      refine ⟨fun z => absurd z (by decide), fun _ s es x ex => ?_⟩
      rw [ex, k_n1]
      refine h s ?_
      rw [es, if_pos rfl, show (256 : Int32) + nI w = nI (256 + w) from nI_add 256 w]
  intro P hP
  suffices key : ∀ r j : Nat, j + r = kWl w → P (if wMat T p w j = true then 1 else 0) (nI j) from key (kWl w) 0 (by omega)
  intro r
  induction r with
  | zero =>
    intro j hj
    have ej : j = kWl w := by omega
    subst ej
    refine hP _ _ ⟨fun _ => stop _ rfl, fun q => absurd (by rw [l2]; exact Int32.le_refl _) q⟩
  | succ r ih =>
    intro j hj
    refine hP _ _ ⟨fun q => absurd q (by rw [l2]; exact nI_ge (by omega) (by omega)), fun _ => ⟨fun q => ?_, fun q => ?_⟩⟩
    · have hm : wMat T p w j = false := by
        cases hb : wMat T p w j with
        | false => rfl
        | true =>
          rw [hb] at q
          exact absurd q (by decide)
      have hm2 := wMat_no hm (kWl w - j)
      rw [show j + (kWl w - j) = kWl w by omega] at hm2
      rw [hm]
      exact stop _ hm2
    · have hm : wMat T p w j = true := by
        cases hb : wMat T p w j with
        | true => rfl
        | false =>
          rw [hb] at q
          exact absurd rfl q
      have nx := ih (j + 1) (by omega)
      have e1 : wMat T p w (j + 1) = decide (T (p + j) = kWc w j) := by
        show (wMat T p w j && _) = _
        rw [hm, Bool.true_and]
      rw [e1] at nx
      obtain ⟨c1, c2, c3⟩ := kWc_in w hw j (by omega)
      obtain ⟨t1, t2⟩ := hT.2.2 (p + j) (by omega)
      rw [hp, nI_add, l3, k_cl (by omega), t1, c1]
      refine ⟨k_idx (by omega) (by decide), k_idx (by omega) (by omega), fun z x ex => ?_, fun z x ex => ?_⟩
      · have hne : ¬ T (p + j) = kWc w j := fun y => z (by rw [y])
        rw [decide_eq_false hne] at nx
        rw [ex, k_n1]
        exact nx
      · have heq : T (p + j) = kWc w j := (nI_eqB t2 (by omega)).mp z
        rw [decide_eq_true heq] at nx
        rw [ex, k_n1]
        exact nx
theorem x_words {T : Nat → Nat} {N p e : Nat} {σ : kS} {Q : kS → Prop} (hT : xTp T N σ) (hpe : p ≤ e) (heN : e ≤ N) (hp : σ.1 30 4 = nI p) (he : σ.1 30 2 = nI e) (h : ∀ s : kS, s = kset σ 30 3 (nI (wTok T p e 12)) → Q s) : wX1_nextWord_39 Q σ := by
  intro s5 e5
  intro P hP
  have hN := hT.1
  suffices key : ∀ r w : Nat, w + r = 12 → ∀ u : kS, u = kset σ 30 3 (nI (wTok T p e w)) → P u (nI w) from key 12 0 rfl s5 e5
  intro r
  induction r with
  | zero =>
    intro w hw u hu
    have e1 : w = 12 := by omega
    subst e1
    exact hP _ _ ⟨fun _ => h u hu, fun q => absurd (k_at rfl) q⟩
  | succ r ih =>
    intro w hw u hu
    have hTu : xTp T N u := hT.nf (by rw [hu]; exact xNf.set (by decide))
    have pu : u.1 30 4 = nI p := by rw [hu, kset_ne (by decide)]; exact hp
    have eu : u.1 30 2 = nI e := by rw [hu, kset_ne (by decide)]; exact he
    obtain ⟨l1, l0, l2, l3⟩ := kWl_in w (by omega)
    have hsub : nI e - nI p = nI (e - p) := pk_sub hpe
    refine hP _ _ ⟨fun q => absurd q (k_ge (N := 12) (by omega) (by decide) rfl), fun _ => x_wordOf (by omega) ⟨fun q => ?_, fun q => ?_⟩⟩
    · have hne : ¬ e - p = kWl w := fun z => q (by rw [l2, eu, pu, hsub, z])
      have we : wEq T p e w = false := by
        unfold wEq
        rw [decide_eq_false hne]
        rfl
      have nx := ih (w + 1) (by omega) u (by rw [hu]; rw [show wTok T p e (w + 1) = wTok T p e w from if_neg (by rw [we]; decide)])
      have s128 : wX1_nextWord_128 Q P (nI w) (0 : Int32) u := by
        refine ⟨fun _ x ex => ?_, fun z => absurd rfl z⟩
        rw [ex, k_n1]
        exact nx
      intro P82 hP82
      exact hP82 _ _ ⟨fun _ => s128, fun _ => ⟨fun _ => s128, fun z => absurd rfl z⟩⟩
    · rw [l2, eu, pu, hsub] at q
      have hlen : e - p = kWl w := ((nI_eq (by omega) (by omega)).mp q).symm
      refine x_word1 hTu (by omega) hpe heN pu hlen (fun s es => ih (w + 1) (by omega) s ?_)
      by_cases z : wEq T p e w = true
      · rw [if_pos z] at es
        rw [es, hu, kset_kset, show wTok T p e (w + 1) = 256 + w from if_pos z]
      · rw [if_neg z] at es
        rw [es, hu, show wTok T p e (w + 1) = wTok T p e w from if_neg z]
theorem x_nextWord {T : Nat → Nat} {N p : Nat} {σ : kS} {Q : kS → Prop} (hT : xTp T N σ) (hpN : p ≤ N) (hp : σ.1 30 4 = nI p) (ha : σ.1 30 2 = nI p) (h : ∀ s : kS, xNf σ s → s.1 30 4 = nI p → s.1 30 2 = nI (lRun lLe T N p) → s.1 30 3 = nI (wTok T p (lRun lLe T N p) 12) → Q s) : wX1_nextWord σ Q := by
  have hN := hT.1
  intro P hP
  suffices key : ∀ r i : Nat, i + r = N → p ≤ i → lRun lLe T N i = lRun lLe T N p → ∀ u : kS, xNf σ u → u.1 30 4 = nI p → u.1 30 2 = nI i → P u from key (N - p) p (by omega) (Nat.le_refl _) rfl σ xNf.rf hp ha
  have stop : ∀ i : Nat, p ≤ i → i ≤ N → lRun lLe T N p = i → ∀ u : kS, xNf σ u → u.1 30 4 = nI p → u.1 30 2 = nI i → wX1_nextWord_39 Q u := by
    intro i h1 h2 h3 u ou pu au
    refine x_words (hT.nf ou) h1 h2 pu au (fun s es => h s ?_ ?_ ?_ ?_)
    · rw [es]
      exact ou.tr (xNf.set (by decide))
    · rw [es, kset_ne (by decide)]
      exact pu
    · rw [es, kset_ne (by decide), h3]
      exact au
    · rw [es, kset_at, h3]
  intro r
  induction r with
  | zero =>
    intro i hi hpi hr u ou pu au
    have e : i = N := by omega
    have u1 := (hT.nf ou).2.1
    refine hP _ ⟨fun _ => stop i hpi (by omega) ?_ u ou pu au, fun q => absurd (by rw [u1, au, e]; exact Int32.le_refl _) q⟩
    rw [← hr]
    exact lRun_0 (by omega)
  | succ r ih =>
    intro i hi hpi hr u ou pu au
    have u1 := (hT.nf ou).2.1
    obtain ⟨t1, t2⟩ := (hT.nf ou).2.2 i (by omega)
    refine hP _ ⟨fun q => absurd q (by rw [u1, au]; exact nI_ge (by omega) (by omega)), fun _ => ?_⟩
    rw [au, k_cl (by omega), t1]
    refine ⟨k_idx (by omega) (by decide), x_isLetter t2 ?_⟩
    by_cases hl : lLe (T i) = true
    · rw [if_pos hl]
      refine ⟨fun z => absurd z (by decide), fun _ s4 e4 => ?_⟩
      rw [k_n1] at e4
      refine ih (i + 1) (by omega) (by omega) ?_ s4 ?_ ?_ ?_
      · rw [← hr]
        exact (lRun_s (by omega) hl).symm
      · rw [e4]
        exact ou.tr (xNf.set (by decide))
      · rw [e4, kset_ne (by decide)]
        exact pu
      · rw [e4, kset_at]
    · rw [if_neg hl]
      refine ⟨fun _ => stop i hpi (by omega) ?_ u ou pu au, fun z => absurd rfl z⟩
      rw [← hr]
      exact lRun_0 (fun z => hl z.2)
theorem x_nextNumber {T : Nat → Nat} {N p : Nat} {σ : kS} {Q : kS → Prop} (hT : xTp T N σ) (hpN : p ≤ N) (hp : σ.1 30 4 = nI p) (ha : σ.1 30 2 = nI p) (h : ∀ s : kS, xNf σ s → s.1 30 4 = nI p → s.1 30 2 = nI (lRun lDi T N p) → s.1 30 3 = nI (if lRun lDi T N p - p ≤ 4 then 2 else 1) → s.1 30 5 = nI (lNum T p (lRun lDi T N p - p)) → Q s) : wX1_nextNumber σ Q := by
  have hN := hT.1
  intro s1 e1 P hP
  have o1 : xNf σ s1 := by rw [e1]; exact xNf.set (by decide)
  suffices key : ∀ r i : Nat, i + r = N → p ≤ i → lRun lDi T N i = lRun lDi T N p → ∀ u : kS, xNf σ u → u.1 30 4 = nI p → u.1 30 2 = nI i → u.1 30 5 = nI (lNum T p (i - p)) → P u from key (N - p) p (by omega) (Nat.le_refl _) rfl s1 o1 (by rw [e1, kset_ne (by decide)]; exact hp) (by rw [e1, kset_ne (by decide)]; exact ha) (by rw [e1, kset_at, Nat.sub_self]; rfl)
  have stop : ∀ i : Nat, p ≤ i → i ≤ N → lRun lDi T N p = i → ∀ u : kS, xNf σ u → u.1 30 4 = nI p → u.1 30 2 = nI i → u.1 30 5 = nI (lNum T p (i - p)) → wX1_nextNumber_68 Q u := by
    intro i h1 h2 h3 u ou pu au nu
    have fin : ∀ v : Int32, v = nI (if i - p ≤ 4 then 2 else 1) → wX1_nextNumber_87 Q v u := by
      intro v hv s8 e8
      refine h s8 ?_ ?_ ?_ ?_ ?_
      · rw [e8]
        exact ou.tr (xNf.set (by decide))
      · rw [e8, kset_ne (by decide)]
        exact pu
      · rw [e8, kset_ne (by decide), h3]
        exact au
      · rw [e8, kset_at, h3, hv]
      · rw [e8, kset_ne (by decide), h3]
        exact nu
    unfold wX1_nextNumber_68
    rw [au, pu, pk_sub h1]
    refine ⟨fun q => fin _ ?_, fun q => fin _ ?_⟩
    · have := (nI_ltI (a := 4) (by decide) (by omega)).mp q
      rw [if_neg (by omega)]
      rfl
    · have : ¬ 4 < i - p := fun z => q (nI_lt (a := 4) z (by omega))
      rw [if_pos (by omega)]
      rfl
  intro r
  induction r with
  | zero =>
    intro i hi hpi hr u ou pu au nu
    have e : i = N := by omega
    have u1 := (hT.nf ou).2.1
    refine hP _ ⟨fun _ => stop i hpi (by omega) ?_ u ou pu au nu, fun q => absurd (by rw [u1, au, e]; exact Int32.le_refl _) q⟩
    rw [← hr]
    exact lRun_0 (by omega)
  | succ r ih =>
    intro i hi hpi hr u ou pu au nu
    have u1 := (hT.nf ou).2.1
    obtain ⟨t1, t2⟩ := (hT.nf ou).2.2 i (by omega)
    refine hP _ ⟨fun q => absurd q (by rw [u1, au]; exact nI_ge (by omega) (by omega)), fun _ => ?_⟩
    rw [au, k_cl (by omega), t1]
    refine ⟨k_idx (by omega) (by decide), x_isDigit t2 ?_⟩
    by_cases hl : lDi (T i) = true
    · rw [if_pos hl]
      have hd : 48 ≤ T i := by
        simp only [lDi, Bool.and_eq_true, decide_eq_true_eq] at hl
        exact hl.1
      refine ⟨fun z => absurd z (by decide), fun _ => ⟨k_idx (by omega) (by decide), fun s5 e5 s6 e6 => ?_⟩⟩
      have ev : ((nI (lNum T p (i - p)) * (10 : Int32)) + nI (T i)) - (48 : Int32) = nI (lNum T p (i + 1 - p)) := by
        rw [show nI (lNum T p (i - p)) * (10 : Int32) = nI (lNum T p (i - p) * 10) from pk_mul _ 10, nI_add, show (48 : Int32) = nI 48 from rfl, pk_sub (by omega), show i + 1 - p = (i - p) + 1 by omega]
        show nI (lNum T p (i - p) * 10 + T i - 48) = nI (lNum T p (i - p) * 10 + T (p + (i - p)) - 48)
        rw [show p + (i - p) = i by omega]
      rw [nu, ev] at e5
      have s52 : s5.1 30 2 = nI i := by rw [e5, kset_ne (by decide)]; exact au
      rw [s52, k_n1] at e6
      refine ih (i + 1) (by omega) (by omega) ?_ s6 ?_ ?_ ?_ ?_
      · rw [← hr]
        exact (lRun_s (by omega) hl).symm
      · rw [e6, e5]
        exact (ou.tr (xNf.set (by decide))).tr (xNf.set (by decide))
      · rw [e6, kset_ne (by decide), e5, kset_ne (by decide)]
        exact pu
      · rw [e6, kset_at]
      · rw [e6, kset_ne (by decide), e5, kset_at]
    · rw [if_neg hl]
      refine ⟨fun _ => stop i hpi (by omega) ?_ u ou pu au nu, fun z => absurd rfl z⟩
      rw [← hr]
      exact lRun_0 (fun z => hl z.2)
theorem x_next {T : Nat → Nat} {N i : Nat} {σ : kS} {Q : kS → Prop} (hT : xTp T N σ) (hi : i ≤ N) (ha : σ.1 30 2 = nI i) (hf : σ.1 30 6 = -1) (h : ∀ s : kS, xNf σ s → s.1 30 3 = nI (lC T N i) → s.1 30 4 = nI (lP T N i) → s.1 30 2 = nI (lE T N i) → (lC T N i = 2 → s.1 30 5 = nI (lA T N i)) → Q s) : wX1_next σ Q := by
  have hN := hT.1
  refine ⟨fun _ => ?_, fun q => absurd hf q⟩
  intro P hP
  have stop : ∀ p : Nat, p ≤ N → lP T N i = p → ∀ u : kS, xNf σ u → u.1 30 2 = nI p → wX1_next_61 Q u := by
    intro p hpN hpi u ou au s5 e5
    have o5 : xNf σ s5 := by rw [e5]; exact ou.tr (xNf.set (by decide))
    have p5 : s5.1 30 4 = nI p := by rw [e5, kset_at]; exact au
    have a5 : s5.1 30 2 = nI p := by rw [e5, kset_ne (by decide)]; exact au
    have T5 := hT.nf o5
    unfold lC lE lA at h
    rw [hpi] at h
    rw [a5, T5.2.1]
    refine ⟨fun q => ?_, fun q s15 e15 => ?_⟩
    · have hlt : p < N := (nI_ltI (by omega) (by omega)).mp q
      obtain ⟨t1, t2⟩ := T5.2.2 p hlt
      rw [k_cl (by omega), t1]
      have ix : vp_in (nI p) 160 := k_idx (by omega) (by decide)
      have ec : lCp T N p = if lLe (T p) = true then wTok T p (lRun lLe T N p) 12 else if lDi (T p) = true then (if lRun lDi T N p - p ≤ 4 then 2 else 1) else if lSi (T p) = true then T p else 1 := if_neg (by omega)
      have ee : lEp T N p = if lLe (T p) = true then lRun lLe T N p else if lDi (T p) = true then lRun lDi T N p else p + 1 := if_neg (by omega)
      rw [ec, ee] at h
      refine ⟨ix, x_isLetter t2 ?_⟩
      by_cases h1 : lLe (T p) = true
      · rw [if_pos h1]
        rw [if_pos h1, if_pos h1] at h
        refine ⟨fun z => absurd z (by decide), fun _ => x_nextWord T5 hpN p5 a5 (fun s os ps as ts => h s (o5.tr os) ts ps as (fun z => ?_))⟩
        rcases wTok_in (T := T) (p := p) (e := lRun lLe T N p) 12 with y | ⟨w, y1, y2, y3⟩
        · omega
        · omega
      · rw [if_neg h1]
        rw [if_neg h1, if_neg h1] at h
        refine ⟨fun _ => ⟨ix, x_isDigit t2 ?_⟩, fun z => absurd rfl z⟩
        by_cases h2 : lDi (T p) = true
        · rw [if_pos h2]
          rw [if_pos h2, if_pos h2] at h
          exact ⟨fun z => absurd z (by decide), fun _ => x_nextNumber T5 hpN p5 a5 (fun s os ps as ts ns => h s (o5.tr os) ts ps as (fun _ => ns))⟩
        · rw [if_neg h2]
          rw [if_neg h2, if_neg h2] at h
          have fin : ∀ v : Int32, v = nI (if lSi (T p) = true then T p else 1) → wX1_next_161 Q v s5 := by
            intro v hv s17 e17 s18 e18
            have a17 : s17.1 30 2 = nI p := by rw [e17, kset_ne (by decide)]; exact a5
            rw [a17, k_n1] at e18
            refine h s18 ?_ ?_ ?_ ?_ (fun z => ?_)
            · rw [e18, e17]
              exact (o5.tr (xNf.set (by decide))).tr (xNf.set (by decide))
            · rw [e18, kset_ne (by decide), e17, kset_at]
              exact hv
            · rw [e18, kset_ne (by decide), e17, kset_ne (by decide)]
              exact p5
            · rw [e18, kset_at]
            · by_cases h3 : lSi (T p) = true
              · rw [if_pos h3] at z
                have := lSi_in h3
                omega
              · rw [if_neg h3] at z
                exact absurd z (by decide)
          refine ⟨fun _ => ⟨ix, x_isSign t2 ?_⟩, fun z => absurd rfl z⟩
          by_cases h3 : lSi (T p) = true
          · rw [if_pos h3]
            exact ⟨fun z => absurd z (by decide), fun _ => ⟨ix, fin _ (by rw [if_pos h3])⟩⟩
          · rw [if_neg h3]
            exact ⟨fun _ => fin _ (by rw [if_neg h3]; rfl), fun z => absurd rfl z⟩
    · have hge : N ≤ p := by
        rcases Nat.lt_or_ge p N with z | z
        · exact absurd (nI_lt z (by omega)) q
        · exact z
      have ec : lCp T N p = 0 := if_pos hge
      have ee : lEp T N p = p := if_pos hge
      rw [ec, ee] at h
      refine h s15 ?_ ?_ ?_ ?_ (fun z => absurd z (by decide))
      · rw [e15]
        exact o5.tr (xNf.set (by decide))
      · rw [e15, kset_at]
        rfl
      · rw [e15, kset_ne (by decide)]
        exact p5
      · rw [e15, kset_ne (by decide)]
        exact a5
  suffices key : ∀ r j : Nat, j + r = N → lRun lBl T N j = lP T N i → ∀ u : kS, xNf σ u → u.1 30 2 = nI j → P u from key (N - i) i (by omega) rfl σ xNf.rf ha
  intro r
  induction r with
  | zero =>
    intro j hj hr u ou au
    have u1 := (hT.nf ou).2.1
    have e : j = N := by omega
    refine hP _ ⟨fun _ => stop j (by omega) ?_ u ou au, fun q => absurd (by rw [u1, au, e]; exact Int32.le_refl _) q⟩
    rw [← hr]
    exact lRun_0 (by omega)
  | succ r ih =>
    intro j hj hr u ou au
    have u1 := (hT.nf ou).2.1
    obtain ⟨t1, t2⟩ := (hT.nf ou).2.2 j (by omega)
    have ix : vp_in (nI j) 160 := k_idx (by omega) (by decide)
    have more : lBl (T j) = true → wX1_next_48 Q P u := by
      intro hb s16 e16
      rw [au, k_n1] at e16
      refine ih (j + 1) (by omega) ?_ s16 ?_ ?_
      · rw [← hr]
        exact (lRun_s (by omega) hb).symm
      · rw [e16]
        exact ou.tr (xNf.set (by decide))
      · rw [e16, kset_at]
    have less : ¬ lBl (T j) = true → wX1_next_61 Q u := by
      intro hb
      refine stop j (by omega) ?_ u ou au
      rw [← hr]
      exact lRun_0 (fun z => hb z.2)
    refine hP _ ⟨fun q => absurd q (by rw [u1, au]; exact nI_ge (by omega) (by omega)), fun _ => ?_⟩
    rw [au, k_cl (by omega), t1]
    refine ⟨ix, fun q => more ?_, fun q => ⟨ix, fun q2 => less ?_, fun q2 => more ?_⟩⟩
    · have := (nI_eqB (m := 32) t2 (by decide)).mp q
      rw [this]
      rfl
    · intro z
      simp only [lBl, Bool.or_eq_true, decide_eq_true_eq] at z
      rcases z with z | z
      · exact q (by rw [z]; rfl)
      · exact q2 (by rw [z]; rfl)
    · have := (nI_eqB (m := 10) t2 (by decide)).mp q2
      rw [this]
      rfl
