/-! pure: dry cells and how many they are -/
def sPop (x : Int32) : Int32 :=
  let x1 := x - ((kushr x (1 : Int32)) &&& (1431655765 : Int32))
  let x2 := (x1 &&& (858993459 : Int32)) + ((kushr x1 (2 : Int32)) &&& (858993459 : Int32))
  let x3 := (x2 + (kushr x2 (4 : Int32))) &&& (252645135 : Int32)
  let x4 := x3 + (kushr x3 (8 : Int32))
  let x5 := x4 + (kushr x4 (16 : Int32))
  x5 &&& (63 : Int32)
theorem x_pop {x : Int32} {Q : Int32 → Prop} (h : Q (sPop x)) : wJ6_bitCount x Q := by
  intro x1 e1 x2 e2 x3 e3 x4 e4 x5 e5
  subst e1 e2 e3 e4 e5
  exact h
def kBitsN : Nat → Int32 → Int32 → Option Int32
  | 0, _, _ => none
  | f + 1, a, x => if x = 0 then some a else kBitsN f (a + 1) (x &&& (x - 1))
theorem kBits_all2 : ∀ a : Nat, a < 64 → ∀ b : Nat, b < 64 → kBitsN 13 0 (nI (64 * a + b)) = some (sPop (nI (64 * a + b))) := by decide +kernel
theorem sPop_in2 : ∀ a : Nat, a < 64 → ∀ b : Nat, b < 64 → 0 ≤ sPop (nI (64 * a + b)) ∧ sPop (nI (64 * a + b)) ≤ 12 := by decide +kernel
theorem kBits_all (n : Nat) (h : n < 4096) : kBitsN 13 0 (nI n) = some (sPop (nI n)) := by
  have e := kBits_all2 (n / 64) (by omega) (n % 64) (by omega)
  rw [show 64 * (n / 64) + n % 64 = n by omega] at e
  exact e
theorem sPop_in (n : Nat) (h : n < 4096) : 0 ≤ sPop (nI n) ∧ sPop (nI n) ≤ 12 := by
  have e := sPop_in2 (n / 64) (by omega) (n % 64) (by omega)
  rw [show 64 * (n / 64) + n % 64 = n by omega] at e
  exact e
theorem kDry_all : ∀ c : Nat, c < 12 → ∀ n : Nat, n < 2 ^ c → (nI n ||| kshl 1 (nI c)) = nI (n + 2 ^ c) := by decide +kernel
theorem kDry_none : ∀ c : Nat, c < 12 → kshl 0 (nI c) = 0 := by decide +kernel
theorem m_bitsN {Q : Int32 → Prop} {r : Int32} : ∀ (f : Nat) (a x : Int32), kBitsN f a x = some r → Q r → wX5_bitsOf_4 Q a x := by
  intro f
  induction f with
  | zero => exact fun a x h => by cases h
  | succ f ih =>
    intro a x h hq P hP
    refine hP _ _ ⟨fun q => ?_, fun q x2 e2 x3 e3 => ?_⟩
    · rw [show kBitsN (f + 1) a x = some a from if_pos q] at h
      cases h
      exact hq
    · rw [show kBitsN (f + 1) a x = kBitsN f (a + 1) (x &&& (x - 1)) from if_neg q] at h
      rw [e2, e3]
      exact ih _ _ h hq P hP
/-- a set of cells -/
def isSet (x : Int32) : Prop := ∃ n : Nat, n < 4096 ∧ x = nI n
theorem m_bitsOf {x : Int32} {Q : Int32 → Prop} (hx : isSet x) (h : Q (sPop x)) : wX5_bitsOf x Q := by
  obtain ⟨n, hn, e⟩ := hx
  subst e
  exact m_bitsN 13 0 (nI n) (kBits_all n hn) h
theorem isSet.pop {x : Int32} (hx : isSet x) : 0 ≤ sPop x ∧ sPop x ≤ 12 := by
  obtain ⟨n, hn, e⟩ := hx
  subst e
  exact sPop_in n hn
theorem sDryN_in {A : kFn} : ∀ c : Nat, c ≤ 12 → ∃ n : Nat, n < 2 ^ c ∧ sDryN A c = nI n := by
  intro c
  induction c with
  | zero => exact fun _ => ⟨0, by decide, rfl⟩
  | succ c ih =>
    intro hc
    obtain ⟨n, h1, h2⟩ := ih (by omega)
    have hp : 2 ^ (c + 1) = 2 ^ c + 2 ^ c := by omega
    by_cases q : A 3 c = 0
    · refine ⟨n + 2 ^ c, by omega, ?_⟩
      rw [show sDryN A (c + 1) = sDryN A c ||| kshl 1 (nI c) from if_pos q, h2]
      exact kDry_all c (by omega) n h1
    · refine ⟨n, by omega, ?_⟩
      rw [show sDryN A (c + 1) = sDryN A c from if_neg q]
      exact h2
theorem sDry_set {A : kFn} : isSet (sDry A) := sDryN_in (A := A) 12 (by omega)
theorem m_drySet {A : kFn} {σ : kS} {Q : Int32 → kS → Prop} (hR : mR A σ) (h : Q (sDry A) σ) : wX5_drySet σ Q := by
  intro P hP
  suffices key : ∀ k c : Nat, c + k = 12 → P (sDryN A c) (nI c) from key 12 0 rfl
  intro k
  induction k with
  | zero =>
    intro c hc
    have : c = 12 := by omega
    subst this
    exact hP _ _ ⟨fun _ => h, fun q => absurd (k_at rfl) q⟩
  | succ k ih =>
    intro c hc
    have e := ih (c + 1) (by omega)
    refine hP _ _ ⟨fun q => absurd q (k_ge (N := 12) (by omega) (by decide) rfl), fun _ => ?_⟩
    rw [n_32, k_cl (by omega), (hR.1 c (by omega)).2.2]
    refine ⟨k_idx (by omega) (by decide), fun q x ex y ey => ?_, fun q x ex y ey => ?_⟩
    · rw [show sDryN A (c + 1) = sDryN A c from if_neg q] at e
      rw [ey, k_n1, ex, kDry_none c (by omega), Int32.or_zero]
      exact e
    · rw [show sDryN A (c + 1) = sDryN A c ||| kshl 1 (nI c) from if_pos q] at e
      rw [ey, k_n1, ex]
      exact e
