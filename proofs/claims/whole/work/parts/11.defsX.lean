def wX3_codeOf (T : kTxt) (l1 : Int32) (σ : kS) (Q : kRow → kS → Prop) : Prop :=
  (l1 ≠ 0 → (l1 ≠ (1 : Int32) → Q T.2.2.2 σ) ∧ (l1 = (1 : Int32) → Q T.2.2.1 σ)) ∧ (l1 = 0 → Q T.2.1 σ)
def wX3_turned (l0 : Int32) (l1 : Int32) (Q : Int32 → Prop) : Prop :=
  (l0 ≠ (-8 : Int32) → (l1 ≠ 0 → Q (0 : Int32)) ∧ (l1 = 0 → Q (1 : Int32))) ∧ (l0 = (-8 : Int32) → Q (-l1))
def wX3_joined (l0 : Int32) (l1 : Int32) (l2 : Int32) (Q : Int32 → Prop) : Prop :=
  (l0 = (-14 : Int32) → Q (l1 - l2)) ∧ (l0 = (-13 : Int32) → Q (l1 + l2)) ∧ (l0 = (-12 : Int32) → (l1 ≠ l2 → Q (0 : Int32)) ∧ (l1 = l2 → Q (1 : Int32))) ∧ (l0 = (-11 : Int32) → (l2 ≤ l1 → Q (0 : Int32)) ∧ (¬ l2 ≤ l1 → Q (1 : Int32))) ∧ (l0 = (-10 : Int32) → (l1 = 0 → Q (0 : Int32)) ∧ (¬ l1 = 0 → (l2 = 0 → Q (0 : Int32)) ∧ (¬ l2 = 0 → Q (1 : Int32)))) ∧ (l0 = (-9 : Int32) → (l1 ≠ 0 → Q (1 : Int32)) ∧ (l1 = 0 → (l2 = 0 → Q (0 : Int32)) ∧ (¬ l2 = 0 → Q (1 : Int32)))) ∧ (¬ l0 = (-14 : Int32) → ¬ l0 = (-13 : Int32) → ¬ l0 = (-12 : Int32) → ¬ l0 = (-11 : Int32) → ¬ l0 = (-10 : Int32) → ¬ l0 = (-9 : Int32) → Q (l1 * l2))
def wX0_take (b : Nat) (b1 : Nat) (σ : kS) (Q : kS → Prop) : Prop :=
  ((¬ (0 : Int32) < 0) ∧ (¬ (0 : Int32) < 0) ∧ (¬ (12 : Int32) < 0) ∧ (0 : Int32).toNatClampNeg + (12 : Int32).toNatClampNeg ≤ 12 ∧ (0 : Int32).toNatClampNeg + (12 : Int32).toNatClampNeg ≤ 12) ∧ ∀ s1 : kS, s1 = kput σ (b + 1) (va_cpy (σ.1 (b1 + 1)) (σ.1 (b + 1)) (0 : Int32).toNatClampNeg (0 : Int32).toNatClampNeg (12 : Int32).toNatClampNeg) → ((¬ (0 : Int32) < 0) ∧ (¬ (0 : Int32) < 0) ∧ (¬ (12 : Int32) < 0) ∧ (0 : Int32).toNatClampNeg + (12 : Int32).toNatClampNeg ≤ 12 ∧ (0 : Int32).toNatClampNeg + (12 : Int32).toNatClampNeg ≤ 12) ∧ ∀ s2 : kS, s2 = kput s1 (b + 2) (va_cpy (s1.1 (b1 + 2)) (s1.1 (b + 2)) (0 : Int32).toNatClampNeg (0 : Int32).toNatClampNeg (12 : Int32).toNatClampNeg) → ((¬ (0 : Int32) < 0) ∧ (¬ (0 : Int32) < 0) ∧ (¬ (12 : Int32) < 0) ∧ (0 : Int32).toNatClampNeg + (12 : Int32).toNatClampNeg ≤ 12 ∧ (0 : Int32).toNatClampNeg + (12 : Int32).toNatClampNeg ≤ 12) ∧ ∀ s3 : kS, s3 = kput s2 (b + 3) (va_cpy (s2.1 (b1 + 3)) (s2.1 (b + 3)) (0 : Int32).toNatClampNeg (0 : Int32).toNatClampNeg (12 : Int32).toNatClampNeg) → ((¬ (0 : Int32) < 0) ∧ (¬ (0 : Int32) < 0) ∧ (¬ (6 : Int32) < 0) ∧ (0 : Int32).toNatClampNeg + (6 : Int32).toNatClampNeg ≤ 6 ∧ (0 : Int32).toNatClampNeg + (6 : Int32).toNatClampNeg ≤ 6) ∧ ∀ s4 : kS, s4 = kput s3 (b + 4) (va_cpy (s3.1 (b1 + 4)) (s3.1 (b + 4)) (0 : Int32).toNatClampNeg (0 : Int32).toNatClampNeg (6 : Int32).toNatClampNeg) → ((¬ (0 : Int32) < 0) ∧ (¬ (0 : Int32) < 0) ∧ (¬ (6 : Int32) < 0) ∧ (0 : Int32).toNatClampNeg + (6 : Int32).toNatClampNeg ≤ 6 ∧ (0 : Int32).toNatClampNeg + (6 : Int32).toNatClampNeg ≤ 6) ∧ ∀ s5 : kS, s5 = kput s4 (b + 5) (va_cpy (s4.1 (b1 + 5)) (s4.1 (b + 5)) (0 : Int32).toNatClampNeg (0 : Int32).toNatClampNeg (6 : Int32).toNatClampNeg) → ((¬ (0 : Int32) < 0) ∧ (¬ (0 : Int32) < 0) ∧ (¬ (6 : Int32) < 0) ∧ (0 : Int32).toNatClampNeg + (6 : Int32).toNatClampNeg ≤ 6 ∧ (0 : Int32).toNatClampNeg + (6 : Int32).toNatClampNeg ≤ 6) ∧ ∀ s6 : kS, s6 = kput s5 (b + 6) (va_cpy (s5.1 (b1 + 6)) (s5.1 (b + 6)) (0 : Int32).toNatClampNeg (0 : Int32).toNatClampNeg (6 : Int32).toNatClampNeg) → ((¬ (0 : Int32) < 0) ∧ (¬ (0 : Int32) < 0) ∧ (¬ (6 : Int32) < 0) ∧ (0 : Int32).toNatClampNeg + (6 : Int32).toNatClampNeg ≤ 6 ∧ (0 : Int32).toNatClampNeg + (6 : Int32).toNatClampNeg ≤ 6) ∧ ∀ s7 : kS, s7 = kput s6 (b + 7) (va_cpy (s6.1 (b1 + 7)) (s6.1 (b + 7)) (0 : Int32).toNatClampNeg (0 : Int32).toNatClampNeg (6 : Int32).toNatClampNeg) → ∀ s8 : kS, s8 = kset s7 b 8 (s7.1 b1 8) → ∀ s9 : kS, s9 = kset s8 b 9 (s8.1 b1 9) → ∀ s10 : kS, s10 = kset s9 b 10 (s9.1 b1 10) → ∀ s11 : kS, s11 = kset s10 b 11 (s10.1 b1 11) → ∀ s12 : kS, s12 = kset s11 b 12 (s11.1 b1 12) → Q s12
def wX0_add (b : Nat) (l1 : Int32) (l2 : Int32) (l3 : Int32) (σ : kS) (Q : kS → Prop) : Prop :=
  ((6 : Int32) ≤ (σ.1 b 11) → Q σ) ∧ (¬ (6 : Int32) ≤ (σ.1 b 11) → vp_in (σ.1 b 11) 6 ∧ ∀ s2 : kS, s2 = kset σ (b + 4) (σ.1 b 11).toNatClampNeg l1 → vp_in (s2.1 b 11) 6 ∧ ∀ s3 : kS, s3 = kset s2 (b + 5) (s2.1 b 11).toNatClampNeg l2 → vp_in (s3.1 b 11) 6 ∧ ∀ s4 : kS, s4 = kset s3 (b + 6) (s3.1 b 11).toNatClampNeg l3 → vp_in (s4.1 b 11) 6 ∧ ∀ s5 : kS, s5 = kset s4 (b + 7) (s4.1 b 11).toNatClampNeg (1 : Int32) → ∀ s6 : kS, s6 = kset s5 b 11 ((s5.1 b 11) + (1 : Int32)) → Q s6)
def wX0_most (l0 : Int32) (Q : Int32 → Prop) : Prop :=
  (l0 < 0 → Q (0 : Int32)) ∧ (¬ l0 < 0 → ((9 : Int32) ≤ l0 → Q (0 : Int32)) ∧ (¬ (9 : Int32) ≤ l0 → vp_in l0 9 ∧ Q (kMost l0.toNatClampNeg)))
def wX4_isCell (l0 : Int32) (Q : Int32 → Prop) : Prop :=
  (l0 < 0 → Q (0 : Int32)) ∧ (¬ l0 < 0 → ((12 : Int32) ≤ l0 → Q (0 : Int32)) ∧ (¬ (12 : Int32) ≤ l0 → Q (1 : Int32)))
def wX0_has_26 (b : Nat) (Q : Int32 → kS → Prop) (l1 : Int32) (l2 : Int32) (σ : kS) : Prop :=
  (l1 < (5 : Int32) → Q (0 : Int32) σ) ∧ (¬ l1 < (5 : Int32) → ((10 : Int32) < l1 → Q (0 : Int32) σ) ∧ (¬ (10 : Int32) < l1 → (l2 < 0 → Q (0 : Int32) σ) ∧ (¬ l2 < 0 → ((σ.1 b 11) ≤ l2 → Q (0 : Int32) σ) ∧ (¬ (σ.1 b 11) ≤ l2 → Q (1 : Int32) σ))))
def wX0_has (b : Nat) (l1 : Int32) (l2 : Int32) (σ : kS) (Q : Int32 → kS → Prop) : Prop :=
  (l1 = 0 → Q (1 : Int32) σ) ∧ (¬ l1 = 0 → (l1 ≠ (1 : Int32) → (l1 < (2 : Int32) → wX0_has_26 b Q l1 l2 σ) ∧ (¬ l1 < (2 : Int32) → ((4 : Int32) < l1 → wX0_has_26 b Q l1 l2 σ) ∧ (¬ (4 : Int32) < l1 → wX4_isCell l2 (fun r5 => (r5 = 0 ∨ r5 = 1) ∧ Q r5 σ)))) ∧ (l1 = (1 : Int32) → Q (1 : Int32) σ))
def wX0_rowOf (b : Nat) (l1 : Int32) (σ : kS) (Q : Nat → Nat → kS → Prop) : Prop :=
  (l1 = (2 : Int32) → Q (b + 1) 12 σ) ∧ (l1 = (3 : Int32) → Q (b + 2) 12 σ) ∧ (l1 = (4 : Int32) → Q (b + 3) 12 σ) ∧ (l1 = (5 : Int32) → Q (b + 5) 6 σ) ∧ (l1 = (6 : Int32) → Q (b + 6) 6 σ) ∧ (l1 = (7 : Int32) → Q (b + 7) 6 σ) ∧ (¬ l1 = (2 : Int32) → ¬ l1 = (3 : Int32) → ¬ l1 = (4 : Int32) → ¬ l1 = (5 : Int32) → ¬ l1 = (6 : Int32) → ¬ l1 = (7 : Int32) → Q (b + 4) 6 σ)
def wX0_get (b : Nat) (l1 : Int32) (l2 : Int32) (σ : kS) (Q : Int32 → kS → Prop) : Prop :=
  (l1 = (0 : Int32) → Q (σ.1 b 8) σ) ∧ (l1 = (1 : Int32) → Q (σ.1 b 9) σ) ∧ (l1 = (11 : Int32) → Q (σ.1 b 12) σ) ∧ (¬ l1 = (0 : Int32) → ¬ l1 = (1 : Int32) → ¬ l1 = (11 : Int32) → wX0_rowOf b l1 σ (fun r5 n6 s4 => (l2 < 0 → Q (0 : Int32) s4) ∧ (¬ l2 < 0 → ((Int32.ofNat n6) ≤ l2 → Q (0 : Int32) s4) ∧ (¬ (Int32.ofNat n6) ≤ l2 → vp_in l2 n6 ∧ Q (s4.1 r5 l2.toNatClampNeg) s4))))
def wX0_put (b : Nat) (l1 : Int32) (l2 : Int32) (l3 : Int32) (σ : kS) (Q : kS → Prop) : Prop :=
  (l1 = (0 : Int32) → ∀ s2 : kS, s2 = kset σ b 8 l3 → Q s2) ∧ (l1 = (1 : Int32) → ∀ s4 : kS, s4 = kset σ b 9 l3 → Q s4) ∧ (l1 = (11 : Int32) → ∀ s6 : kS, s6 = kset σ b 12 l3 → Q s6) ∧ (¬ l1 = (0 : Int32) → ¬ l1 = (1 : Int32) → ¬ l1 = (11 : Int32) → wX0_rowOf b l1 σ (fun r8 n9 s7 => (l2 < 0 → Q s7) ∧ (¬ l2 < 0 → ((Int32.ofNat n9) ≤ l2 → Q s7) ∧ (¬ (Int32.ofNat n9) ≤ l2 → vp_in l2 n9 ∧ ∀ s12 : kS, s12 = kset s7 r8 l2.toNatClampNeg l3 → Q s12))))
def wX0_goes (b : Nat) (l1 : Int32) (σ : kS) (Q : Int32 → kS → Prop) : Prop :=
  (l1 < 0 → Q (0 : Int32) σ) ∧ (¬ l1 < 0 → ((σ.1 b 11) ≤ l1 → Q (0 : Int32) σ) ∧ (¬ (σ.1 b 11) ≤ l1 → vp_in l1 6 ∧ ((σ.1 (b + 7) l1.toNatClampNeg) ≠ (1 : Int32) → Q (0 : Int32) σ) ∧ ((σ.1 (b + 7) l1.toNatClampNeg) = (1 : Int32) → Q (1 : Int32) σ)))
def wX0_goingWorks_4 (b : Nat) (Q : Int32 → kS → Prop) (l1 : Int32) (l2 : Int32) (σ : kS) : Prop :=
  ∀ P4 : kS → Int32 → Int32 → Prop, (∀ (σ : kS) (l1 : Int32) (l2 : Int32), (((6 : Int32) ≤ l2 → Q l1 σ) ∧ (¬ (6 : Int32) ≤ l2 → wX0_goes b l2 σ (fun r3 s2 => (r3 = 0 → ∀ x5 : Int32, x5 = l2 + (1 : Int32) → P4 s2 l1 x5) ∧ (¬ r3 = 0 → ∀ x6 : Int32, x6 = l1 + (1 : Int32) → ∀ x7 : Int32, x7 = l2 + (1 : Int32) → P4 s2 x6 x7)))) → P4 σ l1 l2) → P4 σ l1 l2
def wX0_goingWorks (b : Nat) (σ : kS) (Q : Int32 → kS → Prop) : Prop :=
  wX0_goingWorks_4 b Q (0 : Int32) (0 : Int32) σ
def wX0_dryCells_4 (b : Nat) (Q : Int32 → kS → Prop) (l1 : Int32) (l2 : Int32) (σ : kS) : Prop :=
  ∀ P4 : Int32 → Int32 → Prop, (∀ (l1 : Int32) (l2 : Int32), (((12 : Int32) ≤ l2 → Q l1 σ) ∧ (¬ (12 : Int32) ≤ l2 → vp_in l2 12 ∧ ((σ.1 (b + 3) l2.toNatClampNeg) ≠ 0 → ∀ x3 : Int32, x3 = l2 + (1 : Int32) → P4 l1 x3) ∧ ((σ.1 (b + 3) l2.toNatClampNeg) = 0 → ∀ x4 : Int32, x4 = l1 ||| (kshl (1 : Int32) l2) → ∀ x5 : Int32, x5 = l2 + (1 : Int32) → P4 x4 x5))) → P4 l1 l2) → P4 l1 l2
def wX0_dryCells (b : Nat) (σ : kS) (Q : Int32 → kS → Prop) : Prop :=
  wX0_dryCells_4 b Q (0 : Int32) (0 : Int32) σ
def wX0_isUnder_4 (Q : Int32 → Prop) (l1 : Int32) (l2 : Int32) (l3 : Int32) : Prop :=
  ∀ P4 : Int32 → Int32 → Prop, (∀ (l2 : Int32) (l3 : Int32), (((6 : Int32) ≤ l3 → Q (0 : Int32)) ∧ (¬ (6 : Int32) ≤ l3 → (l2 < 0 → Q (0 : Int32)) ∧ (¬ l2 < 0 → ((6 : Int32) ≤ l2 → Q (0 : Int32)) ∧ (¬ (6 : Int32) ≤ l2 → (l2 ≠ l1 → vp_in l2 6 ∧ ∀ x5 : Int32, x5 = kUnder l2.toNatClampNeg → ∀ x6 : Int32, x6 = l3 + (1 : Int32) → P4 x5 x6) ∧ (l2 = l1 → Q (1 : Int32)))))) → P4 l2 l3) → P4 l2 l3
def wX0_isUnder (l0 : Int32) (l1 : Int32) (Q : Int32 → Prop) : Prop :=
  wX0_isUnder_4 Q l1 l0 (0 : Int32)
def wX0_spreads (l0 : Int32) (Q : Int32 → Prop) : Prop :=
  (l0 = (1 : Int32) → Q (1 : Int32)) ∧ (¬ l0 = (1 : Int32) → (l0 ≠ (4 : Int32) → Q (0 : Int32)) ∧ (l0 = (4 : Int32) → Q (1 : Int32)))
def wX0_holds (l0 : Int32) (Q : Int32 → Prop) : Prop :=
  (l0 ≠ (5 : Int32) → Q (0 : Int32)) ∧ (l0 = (5 : Int32) → Q (1 : Int32))
def wX0_draws_131 (b : Nat) (Q : Int32 → kS → Prop) (l2 : Int32) (l5 : Int32) (σ : kS) : Prop :=
  vp_in l2 12 ∧ Q (if (σ.1 (b + 3) l2.toNatClampNeg) < l5 then (σ.1 (b + 3) l2.toNatClampNeg) else l5) σ
def wX0_draws_107 (b : Nat) (Q : Int32 → kS → Prop) (l2 : Int32) (ks0 : Int32) (σ : kS) : Prop :=
  wX0_draws_131 b Q l2 ks0 σ
def wX0_draws_34 (b : Nat) (Q : Int32 → kS → Prop) (l1 : Int32) (l2 : Int32) (l3 : Int32) (ks0 : Int32) (σ : kS) : Prop :=
  vp_in l1 6 ∧ ((σ.1 (b + 4) l1.toNatClampNeg) = (1 : Int32) → wX0_draws_131 b Q l2 ks0 σ) ∧ ((σ.1 (b + 4) l1.toNatClampNeg) = (2 : Int32) → ∀ x5 : Int32, x5 = l3 + (5 : Int32) → wX0_draws_131 b Q l2 x5 σ) ∧ ((σ.1 (b + 4) l1.toNatClampNeg) = (3 : Int32) → ((krem (σ.1 b 9) (3 : Int32)) ≠ (2 : Int32) → wX0_draws_107 b Q l2 ks0 σ) ∧ ((krem (σ.1 b 9) (3 : Int32)) = (2 : Int32) → wX0_draws_107 b Q l2 (0 : Int32) σ)) ∧ ((σ.1 (b + 4) l1.toNatClampNeg) = (4 : Int32) → ∀ x9 : Int32, x9 = (2 : Int32) * (l3 + (5 : Int32)) → wX0_draws_131 b Q l2 x9 σ) ∧ ((σ.1 (b + 4) l1.toNatClampNeg) = (5 : Int32) → wX0_draws_131 b Q l2 (0 : Int32) σ) ∧ (¬ (σ.1 (b + 4) l1.toNatClampNeg) = (1 : Int32) → ¬ (σ.1 (b + 4) l1.toNatClampNeg) = (2 : Int32) → ¬ (σ.1 (b + 4) l1.toNatClampNeg) = (3 : Int32) → ¬ (σ.1 (b + 4) l1.toNatClampNeg) = (4 : Int32) → ¬ (σ.1 (b + 4) l1.toNatClampNeg) = (5 : Int32) → wX0_draws_131 b Q l2 l3 σ)
def wX0_draws (b : Nat) (l1 : Int32) (l2 : Int32) (σ : kS) (Q : Int32 → kS → Prop) : Prop :=
  vp_in l1 6 ∧ ∀ x1 : Int32, x1 = σ.1 (b + 5) l1.toNatClampNeg → vp_in l2 12 ∧ ((σ.1 (b + 1) l2.toNatClampNeg) ≤ (σ.1 b 8) → wX0_draws_34 b Q l1 l2 x1 x1 σ) ∧ (¬ (σ.1 (b + 1) l2.toNatClampNeg) ≤ (σ.1 b 8) → vp_in l2 12 ∧ wX0_draws_34 b Q l1 l2 x1 (((σ.1 (b + 3) l2.toNatClampNeg) / (2 : Int32)) + x1) σ)
def wX0_drawsOfOwn (b : Nat) (l1 : Int32) (σ : kS) (Q : Int32 → kS → Prop) : Prop :=
  (l1 < 0 → Q (0 : Int32) σ) ∧ (¬ l1 < 0 → ((σ.1 b 11) ≤ l1 → Q (0 : Int32) σ) ∧ (¬ (σ.1 b 11) ≤ l1 → vp_in l1 6 ∧ wX4_isCell (σ.1 (b + 6) l1.toNatClampNeg) (fun r3 => (r3 ≠ 0 → vp_in l1 6 ∧ wX0_draws b l1 (σ.1 (b + 6) l1.toNatClampNeg) σ (fun r6 s5 => Q r6 s5)) ∧ (r3 = 0 → Q (0 : Int32) σ))))
def wX0_named_103 (b : Nat) (Q : Int32 → kS → Prop) (l2 : Int32) (l4 : Int32) (l5 : Int32) (σ : kS) : Prop :=
  ∀ P103 : Int32 → Int32 → Prop, (∀ (l4 : Int32) (l5 : Int32), (((σ.1 b 11) ≤ l5 → Q l4 σ) ∧ (¬ (σ.1 b 11) ≤ l5 → ((6 : Int32) ≤ l5 → Q l4 σ) ∧ (¬ (6 : Int32) ≤ l5 → vp_in l5 6 ∧ ((σ.1 (b + 6) l5.toNatClampNeg) ≠ l2 → ∀ x14 : Int32, x14 = l5 + (1 : Int32) → P103 l4 x14) ∧ ((σ.1 (b + 6) l5.toNatClampNeg) = l2 → ∀ x15 : Int32, x15 = l4 + (1 : Int32) → ∀ x16 : Int32, x16 = l5 + (1 : Int32) → P103 x15 x16)))) → P103 l4 l5) → P103 l4 l5
def wX0_named_80 (b : Nat) (Q : Int32 → kS → Prop) (l2 : Int32) (l3 : Int32) (σ : kS) : Prop :=
  (l3 < 0 → wX0_named_103 b Q l2 (0 : Int32) (0 : Int32) σ) ∧ (¬ l3 < 0 → ((6 : Int32) ≤ l3 → wX0_named_103 b Q l2 (0 : Int32) (0 : Int32) σ) ∧ (¬ (6 : Int32) ≤ l3 → vp_in l3 6 ∧ Q (σ.1 (b + 5) l3.toNatClampNeg) σ))
def wX0_named (b : Nat) (l1 : Int32) (l2 : Int32) (l3 : Int32) (σ : kS) (Q : Int32 → kS → Prop) : Prop :=
  (l2 < 0 → Q (0 : Int32) σ) ∧ (¬ l2 < 0 → (l2 < (12 : Int32) → (l1 = (-6 : Int32) → Q l2 σ) ∧ (l1 = (-5 : Int32) → vp_in l2 12 ∧ Q (σ.1 (b + 3) l2.toNatClampNeg) σ) ∧ (l1 = (-4 : Int32) → wX0_named_80 b Q l2 l3 σ) ∧ (l1 = (-3 : Int32) → Q (σ.1 b 9) σ) ∧ (l1 = (-2 : Int32) → vp_in l2 12 ∧ Q (σ.1 (b + 2) l2.toNatClampNeg) σ) ∧ (l1 = (-1 : Int32) → vp_in l2 12 ∧ Q (σ.1 (b + 1) l2.toNatClampNeg) σ) ∧ (¬ l1 = (-6 : Int32) → ¬ l1 = (-5 : Int32) → ¬ l1 = (-4 : Int32) → ¬ l1 = (-3 : Int32) → ¬ l1 = (-2 : Int32) → ¬ l1 = (-1 : Int32) → wX0_named_80 b Q l2 l3 σ)) ∧ (¬ l2 < (12 : Int32) → Q (0 : Int32) σ))
def wX0_says_67 (b : Nat) (T : kTxt) (Q : Int32 → kS → Prop) (P13 : kS → Int32 → Int32 → Prop) (l2 : Int32) (l3 : Int32) (l4 : Int32) (e5 : kRow) (l6 : Int32) (l7 : Int32) (ks0 : Int32) (ks1 : Int32) (σ : kS) : Prop :=
  vp_in ks1 31 ∧ ∀ s26 : kS, s26 = kset σ (b + 8) ks1.toNatClampNeg ks0 → ∀ x27 : Int32, x27 = l6 + (1 : Int32) → ∀ x28 : Int32, x28 = l7 + (1 : Int32) → P13 s26 x27 x28
def wX0_says_198 (b : Nat) (T : kTxt) (Q : Int32 → kS → Prop) (ks0 : Int32) (ks1 : Int32) (ks2 : Int32) (σ : kS) : Prop :=
  Q (if ks2 < (if ks0 < ks1 then ks0 else ks1) then (if ks0 < ks1 then ks0 else ks1) else ks2) σ
def wX0_says_178 (b : Nat) (T : kTxt) (Q : Int32 → kS → Prop) (l6 : Int32) (ks0 : Int32) (σ : kS) : Prop :=
  (l6 ≤ 0 → wX0_says_198 b T Q (0 : Int32) ks0 (0 : Int32) σ) ∧ (¬ l6 ≤ 0 → wX0_says_198 b T Q (σ.1 (b + 8) (0 : Int32).toNatClampNeg) ks0 (0 : Int32) σ)
def wX0_says_177 (b : Nat) (T : kTxt) (Q : Int32 → kS → Prop) (l6 : Int32) (σ : kS) : Prop :=
  wX0_says_178 b T Q l6 (0 : Int32) σ
def wX0_says_13 (b : Nat) (T : kTxt) (Q : Int32 → kS → Prop) (l2 : Int32) (l3 : Int32) (l4 : Int32) (e5 : kRow) (l6 : Int32) (l7 : Int32) (σ : kS) : Prop :=
  ∀ P13 : kS → Int32 → Int32 → Prop, (∀ (σ : kS) (l6 : Int32) (l7 : Int32), (((Int32.ofNat e5.2.1) ≤ l7 → (l2 < 0 → wX0_says_177 b T Q l6 σ) ∧ (¬ l2 < 0 → ((3 : Int32) ≤ l2 → wX0_says_177 b T Q l6 σ) ∧ (¬ (3 : Int32) ≤ l2 → vp_in l2 3 ∧ wX0_says_178 b T Q l6 (kSaid l2.toNatClampNeg) σ))) ∧ (¬ (Int32.ofNat e5.2.1) ≤ l7 → vp_in l7 e5.2.1 ∧ ∀ x6 : Int32, x6 = e5.2.2 l7.toNatClampNeg → (x6 ≤ (-7 : Int32) → (x6 < (-8 : Int32) → (l6 ≤ (1 : Int32) → ∀ x10 : Int32, x10 = l7 + (1 : Int32) → P13 σ l6 x10) ∧ (¬ l6 ≤ (1 : Int32) → ∀ x11 : Int32, x11 = l6 + (-1 : Int32) → vp_in (x11 - (1 : Int32)) 31 ∧ vp_in x11 31 ∧ wX3_joined x6 (σ.1 (b + 8) (x11 - (1 : Int32)).toNatClampNeg) (σ.1 (b + 8) x11.toNatClampNeg) (fun r12 => vp_in (x11 - (1 : Int32)) 31 ∧ ∀ s13 : kS, s13 = kset σ (b + 8) (x11 - (1 : Int32)).toNatClampNeg r12 → ∀ x14 : Int32, x14 = l7 + (1 : Int32) → P13 s13 x11 x14))) ∧ (¬ x6 < (-8 : Int32) → (l6 ≤ 0 → ∀ x16 : Int32, x16 = l7 + (1 : Int32) → P13 σ l6 x16) ∧ (¬ l6 ≤ 0 → vp_in (l6 - (1 : Int32)) 31 ∧ wX3_turned x6 (σ.1 (b + 8) (l6 - (1 : Int32)).toNatClampNeg) (fun r17 => vp_in (l6 - (1 : Int32)) 31 ∧ ∀ s18 : kS, s18 = kset σ (b + 8) (l6 - (1 : Int32)).toNatClampNeg r17 → ∀ x19 : Int32, x19 = l7 + (1 : Int32) → P13 s18 l6 x19)))) ∧ (¬ x6 ≤ (-7 : Int32) → ((31 : Int32) ≤ l6 → ∀ x21 : Int32, x21 = l7 + (1 : Int32) → P13 σ l6 x21) ∧ (¬ (31 : Int32) ≤ l6 → (x6 < 0 → wX0_named b x6 l3 l4 σ (fun r24 s23 => wX0_says_67 b T Q P13 l2 l3 l4 e5 l6 l7 r24 l6 s23)) ∧ (¬ x6 < 0 → wX0_says_67 b T Q P13 l2 l3 l4 e5 l6 l7 x6 l6 σ))))) → P13 σ l6 l7) → P13 σ l6 l7
def wX0_says (b : Nat) (T : kTxt) (l2 : Int32) (l3 : Int32) (l4 : Int32) (σ : kS) (Q : Int32 → kS → Prop) : Prop :=
  wX3_codeOf T l2 σ (fun r2 s1 => wX0_says_13 b T Q l2 l3 l4 r2 (0 : Int32) (0 : Int32) s1)
def wX0_costs (b : Nat) (T : kTxt) (l2 : Int32) (σ : kS) (Q : Int32 → kS → Prop) : Prop :=
  (l2 < 0 → Q (0 : Int32) σ) ∧ (¬ l2 < 0 → (l2 < (σ.1 b 11) → vp_in l2 6 ∧ wX0_says b T (2 : Int32) (σ.1 (b + 6) l2.toNatClampNeg) l2 σ (fun r4 s3 => vp_in l2 6 ∧ ((s3.1 (b + 4) l2.toNatClampNeg) = (1 : Int32) → Q (r4 / (2 : Int32)) s3) ∧ ((s3.1 (b + 4) l2.toNatClampNeg) = (2 : Int32) → Q ((2 : Int32) * r4) s3) ∧ ((s3.1 (b + 4) l2.toNatClampNeg) = (3 : Int32) → vp_in l2 6 ∧ Q ((r4 / (2 : Int32)) + (s3.1 (b + 5) l2.toNatClampNeg)) s3) ∧ ((s3.1 (b + 4) l2.toNatClampNeg) = (4 : Int32) → vp_in l2 6 ∧ Q (((2 : Int32) * r4) + (s3.1 (b + 5) l2.toNatClampNeg)) s3) ∧ (¬ (s3.1 (b + 4) l2.toNatClampNeg) = (1 : Int32) → ¬ (s3.1 (b + 4) l2.toNatClampNeg) = (2 : Int32) → ¬ (s3.1 (b + 4) l2.toNatClampNeg) = (3 : Int32) → ¬ (s3.1 (b + 4) l2.toNatClampNeg) = (4 : Int32) → Q r4 s3))) ∧ (¬ l2 < (σ.1 b 11) → Q (0 : Int32) σ))
def wX0_pour (b : Nat) (l1 : Int32) (l2 : Int32) (σ : kS) (Q : kS → Prop) : Prop :=
  vp_in l1 12 ∧ vp_in l1 12 ∧ ∀ s1 : kS, s1 = kset σ (b + 3) l1.toNatClampNeg (if ((σ.1 (b + 3) l1.toNatClampNeg) + l2) < (999 : Int32) then ((σ.1 (b + 3) l1.toNatClampNeg) + l2) else (999 : Int32)) → Q s1
def wX0_rain_2 (b : Nat) (T : kTxt) (Q : kS → Prop) (l2 : Int32) (σ : kS) : Prop :=
  ∀ P2 : kS → Int32 → Prop, (∀ (σ : kS) (l2 : Int32), (((12 : Int32) ≤ l2 → Q σ) ∧ (¬ (12 : Int32) ≤ l2 → wX0_says b T (0 : Int32) l2 (-1 : Int32) σ (fun r3 s2 => wX0_pour b l2 r3 s2 (fun s4 => ∀ x5 : Int32, x5 = l2 + (1 : Int32) → P2 s4 x5)))) → P2 σ l2) → P2 σ l2
def wX0_rain (b : Nat) (T : kTxt) (σ : kS) (Q : kS → Prop) : Prop :=
  wX0_rain_2 b T Q (0 : Int32) σ
def wX0_heldCells_4 (b : Nat) (Q : Int32 → kS → Prop) (l1 : Int32) (l2 : Int32) (σ : kS) : Prop :=
  ∀ P4 : kS → Int32 → Int32 → Prop, (∀ (σ : kS) (l1 : Int32) (l2 : Int32), (((6 : Int32) ≤ l2 → Q l1 σ) ∧ (¬ (6 : Int32) ≤ l2 → wX0_goes b l2 σ (fun r3 s2 => (r3 = 0 → ∀ x5 : Int32, x5 = l2 + (1 : Int32) → P4 s2 l1 x5) ∧ (¬ r3 = 0 → vp_in l2 6 ∧ wX0_holds (s2.1 (b + 4) l2.toNatClampNeg) (fun r6 => (r6 = 0 → ∀ x8 : Int32, x8 = l2 + (1 : Int32) → P4 s2 l1 x8) ∧ (¬ r6 = 0 → vp_in l2 6 ∧ ∀ x9 : Int32, x9 = l1 ||| (kshl (1 : Int32) (s2.1 (b + 6) l2.toNatClampNeg)) → ∀ x10 : Int32, x10 = l2 + (1 : Int32) → P4 s2 x9 x10)))))) → P4 σ l1 l2) → P4 σ l1 l2
def wX0_heldCells (b : Nat) (σ : kS) (Q : Int32 → kS → Prop) : Prop :=
  wX0_heldCells_4 b Q (0 : Int32) (0 : Int32) σ
def wX0_meetRiver (b : Nat) (l1 : Int32) (σ : kS) (Q : kS → Prop) : Prop :=
  ∀ x1 : Int32, x1 = ((σ.1 (b + 1) (0 : Int32).toNatClampNeg) + (σ.1 (b + 3) (0 : Int32).toNatClampNeg)) - (σ.1 b 8) → (x1 ≤ 0 → (l1 ≠ 0 → Q σ) ∧ (l1 = 0 → wX0_pour b (0 : Int32) ((-x1) / (2 : Int32)) σ (fun s4 => Q s4))) ∧ (¬ x1 ≤ 0 → ∀ s5 : kS, s5 = kset σ (b + 3) (0 : Int32).toNatClampNeg ((σ.1 (b + 3) (0 : Int32).toNatClampNeg) - (if (σ.1 (b + 3) (0 : Int32).toNatClampNeg) < (x1 / (2 : Int32)) then (σ.1 (b + 3) (0 : Int32).toNatClampNeg) else (x1 / (2 : Int32)))) → Q s5)
def wX0_flow_110 (b : Nat) (Q : kS → Prop) (ks0 : Int32) (σ : kS) : Prop :=
  wX0_meetRiver b ks0 σ (fun s14 => Q s14)
def wX0_flow_8 (b : Nat) (Q : kS → Prop) (l1 : Int32) (l2 : Int32) (σ : kS) : Prop :=
  ∀ P8 : kS → Int32 → Prop, (∀ (σ : kS) (l2 : Int32), ((l2 ≤ 0 → ((l1 &&& (1 : Int32)) = 0 → wX0_flow_110 b Q (0 : Int32) σ) ∧ (¬ (l1 &&& (1 : Int32)) = 0 → wX0_flow_110 b Q (1 : Int32) σ)) ∧ (¬ l2 ≤ 0 → vp_in l2 12 ∧ vp_in l2 12 ∧ vp_in (l2 - (1 : Int32)) 12 ∧ vp_in (l2 - (1 : Int32)) 12 ∧ ∀ x5 : Int32, x5 = (((σ.1 (b + 1) l2.toNatClampNeg) + (σ.1 (b + 3) l2.toNatClampNeg)) - (σ.1 (b + 1) (l2 - (1 : Int32)).toNatClampNeg)) - (σ.1 (b + 3) (l2 - (1 : Int32)).toNatClampNeg) → (x5 ≤ 0 → ∀ x7 : Int32, x7 = l2 + (-1 : Int32) → P8 σ x7) ∧ (¬ x5 ≤ 0 → (((kshr l1 (l2 - (1 : Int32))) &&& (1 : Int32)) ≠ 0 → ∀ x9 : Int32, x9 = l2 + (-1 : Int32) → P8 σ x9) ∧ (((kshr l1 (l2 - (1 : Int32))) &&& (1 : Int32)) = 0 → vp_in l2 12 ∧ ∀ x10 : Int32, x10 = (if (σ.1 (b + 3) l2.toNatClampNeg) < (x5 / (2 : Int32)) then (σ.1 (b + 3) l2.toNatClampNeg) else (x5 / (2 : Int32))) → vp_in l2 12 ∧ vp_in l2 12 ∧ ∀ s11 : kS, s11 = kset σ (b + 3) l2.toNatClampNeg ((σ.1 (b + 3) l2.toNatClampNeg) - x10) → wX0_pour b (l2 - (1 : Int32)) x10 s11 (fun s12 => ∀ x13 : Int32, x13 = l2 + (-1 : Int32) → P8 s12 x13))))) → P8 σ l2) → P8 σ l2
def wX0_flow (b : Nat) (σ : kS) (Q : kS → Prop) : Prop :=
  wX0_heldCells b σ (fun r2 s1 => wX0_flow_8 b Q r2 (11 : Int32) s1)
def wX0_drawFrom (b : Nat) (l1 : Int32) (l2 : Int32) (σ : kS) (Q : kS → Prop) : Prop :=
  wX4_isCell l2 (fun r1 => (r1 = 0 → Q σ) ∧ (¬ r1 = 0 → vp_in l2 12 ∧ wX0_draws b l1 l2 σ (fun r4 s3 => vp_in l2 12 ∧ ∀ s5 : kS, s5 = kset s3 (b + 3) l2.toNatClampNeg ((σ.1 (b + 3) l2.toNatClampNeg) - r4) → Q s5)))
def wX0_drain_65 (b : Nat) (T : kTxt) (Q : kS → Prop) (P2 : kS → Int32 → Prop) (l2 : Int32) (σ : kS) : Prop :=
  wX0_costs b T l2 σ (fun r12 s11 => ∀ s13 : kS, s13 = kset s11 b 10 ((σ.1 b 10) + r12) → ∀ x14 : Int32, x14 = l2 + (1 : Int32) → P2 s13 x14)
def wX0_drain_2 (b : Nat) (T : kTxt) (Q : kS → Prop) (l2 : Int32) (σ : kS) : Prop :=
  ∀ P2 : kS → Int32 → Prop, (∀ (σ : kS) (l2 : Int32), (((6 : Int32) ≤ l2 → Q σ) ∧ (¬ (6 : Int32) ≤ l2 → wX0_goes b l2 σ (fun r3 s2 => (r3 = 0 → ∀ x5 : Int32, x5 = l2 + (1 : Int32) → P2 s2 x5) ∧ (¬ r3 = 0 → vp_in l2 6 ∧ wX0_drawFrom b l2 (s2.1 (b + 6) l2.toNatClampNeg) s2 (fun s6 => vp_in l2 6 ∧ wX0_spreads (s6.1 (b + 4) l2.toNatClampNeg) (fun r7 => (r7 = 0 → wX0_drain_65 b T Q P2 l2 s6) ∧ (¬ r7 = 0 → vp_in l2 6 ∧ wX0_drawFrom b l2 ((s6.1 (b + 6) l2.toNatClampNeg) - (1 : Int32)) s6 (fun s9 => vp_in l2 6 ∧ wX0_drawFrom b l2 ((s9.1 (b + 6) l2.toNatClampNeg) + (1 : Int32)) s9 (fun s10 => wX0_drain_65 b T Q P2 l2 s10))))))))) → P2 σ l2) → P2 σ l2
def wX0_drain (b : Nat) (T : kTxt) (σ : kS) (Q : kS → Prop) : Prop :=
  wX0_drain_2 b T Q (0 : Int32) σ
def wX0_shrink_2 (b : Nat) (T : kTxt) (Q : kS → Prop) (l2 : Int32) (σ : kS) : Prop :=
  ∀ P2 : kS → Int32 → Prop, (∀ (σ : kS) (l2 : Int32), (((12 : Int32) ≤ l2 → Q σ) ∧ (¬ (12 : Int32) ≤ l2 → vp_in l2 12 ∧ ((σ.1 (b + 3) l2.toNatClampNeg) ≠ 0 → ∀ x3 : Int32, x3 = l2 + (1 : Int32) → P2 σ x3) ∧ ((σ.1 (b + 3) l2.toNatClampNeg) = 0 → wX0_says b T (1 : Int32) l2 (-1 : Int32) σ (fun r5 s4 => vp_in l2 12 ∧ vp_in l2 12 ∧ ∀ x6 : Int32, x6 = (if (if (s4.1 (b + 1) l2.toNatClampNeg) < (s4.1 (b + 2) l2.toNatClampNeg) then (s4.1 (b + 1) l2.toNatClampNeg) else (s4.1 (b + 2) l2.toNatClampNeg)) < r5 then (if (s4.1 (b + 1) l2.toNatClampNeg) < (s4.1 (b + 2) l2.toNatClampNeg) then (s4.1 (b + 1) l2.toNatClampNeg) else (s4.1 (b + 2) l2.toNatClampNeg)) else r5) → vp_in l2 12 ∧ vp_in l2 12 ∧ ∀ s7 : kS, s7 = kset s4 (b + 2) l2.toNatClampNeg ((s4.1 (b + 2) l2.toNatClampNeg) - x6) → vp_in l2 12 ∧ vp_in l2 12 ∧ ∀ s8 : kS, s8 = kset s7 (b + 1) l2.toNatClampNeg ((s7.1 (b + 1) l2.toNatClampNeg) - x6) → ∀ x9 : Int32, x9 = l2 + (1 : Int32) → P2 s8 x9)))) → P2 σ l2) → P2 σ l2
def wX0_shrink (b : Nat) (T : kTxt) (σ : kS) (Q : kS → Prop) : Prop :=
  wX0_shrink_2 b T Q (0 : Int32) σ
def wX0_passYear (b : Nat) (T : kTxt) (σ : kS) (Q : kS → Prop) : Prop :=
  wX0_rain b T σ (fun s1 => wX0_flow b s1 (fun s2 => wX0_drain b T s2 (fun s3 => wX0_shrink b T s3 (fun s4 => ∀ s5 : kS, s5 = kset s4 b 9 ((s4.1 b 9) + (1 : Int32)) → Q s5))))
def wX0_pourOnAll_2 (b : Nat) (Q : kS → Prop) (l1 : Int32) (l2 : Int32) (σ : kS) : Prop :=
  ∀ P2 : kS → Int32 → Prop, (∀ (σ : kS) (l2 : Int32), (((12 : Int32) ≤ l2 → Q σ) ∧ (¬ (12 : Int32) ≤ l2 → wX0_pour b l2 l1 σ (fun s2 => ∀ x3 : Int32, x3 = l2 + (1 : Int32) → P2 s2 x3))) → P2 σ l2) → P2 σ l2
def wX0_pourOnAll (b : Nat) (l1 : Int32) (σ : kS) (Q : kS → Prop) : Prop :=
  wX0_pourOnAll_2 b Q l1 (0 : Int32) σ
def wX1_put (l1 : Int32) (σ : kS) (Q : Int32 → kS → Prop) : Prop :=
  ((σ.1 30 1) < (160 : Int32) → vp_in (σ.1 30 1) 160 ∧ ∀ s2 : kS, s2 = kset σ 31 (σ.1 30 1).toNatClampNeg l1 → ∀ s3 : kS, s3 = kset s2 30 1 ((s2.1 30 1) + (1 : Int32)) → Q (1 : Int32) s3) ∧ (¬ (σ.1 30 1) < (160 : Int32) → Q (0 : Int32) σ)
def wX1_size (σ : kS) (Q : Int32 → kS → Prop) : Prop :=
  Q (σ.1 30 1) σ
def wX1_fault (σ : kS) (Q : Int32 → kS → Prop) : Prop :=
  Q (σ.1 30 6) σ
def wX1_isLetter (l0 : Int32) (Q : Int32 → Prop) : Prop :=
  (l0 < (97 : Int32) → Q (0 : Int32)) ∧ (¬ l0 < (97 : Int32) → ((122 : Int32) < l0 → Q (0 : Int32)) ∧ (¬ (122 : Int32) < l0 → Q (1 : Int32)))
def wX1_wordOf (l0 : Int32) (Q : Nat → Prop) : Prop :=
  (l0 = (0 : Int32) → Q 0) ∧ (l0 = (1 : Int32) → Q 1) ∧ (l0 = (2 : Int32) → Q 2) ∧ (l0 = (3 : Int32) → Q 3) ∧ (l0 = (4 : Int32) → Q 4) ∧ (l0 = (5 : Int32) → Q 5) ∧ (l0 = (6 : Int32) → Q 6) ∧ (l0 = (7 : Int32) → Q 7) ∧ (l0 = (8 : Int32) → Q 8) ∧ (l0 = (9 : Int32) → Q 9) ∧ (l0 = (10 : Int32) → Q 10) ∧ (¬ l0 = (0 : Int32) → ¬ l0 = (1 : Int32) → ¬ l0 = (2 : Int32) → ¬ l0 = (3 : Int32) → ¬ l0 = (4 : Int32) → ¬ l0 = (5 : Int32) → ¬ l0 = (6 : Int32) → ¬ l0 = (7 : Int32) → ¬ l0 = (8 : Int32) → ¬ l0 = (9 : Int32) → ¬ l0 = (10 : Int32) → Q 11)
def wX1_nextWord_128 (Q : kS → Prop) (P46 : kS → Int32 → Prop) (l1 : Int32) (l3 : Int32) (σ : kS) : Prop :=
  (l3 = 0 → ∀ x15 : Int32, x15 = l1 + (1 : Int32) → P46 σ x15) ∧ (¬ l3 = 0 → ∀ s16 : kS, s16 = kset σ 30 3 ((256 : Int32) + l1) → ∀ x17 : Int32, x17 = l1 + (1 : Int32) → P46 s16 x17)
def wX1_nextWord_82 (Q : kS → Prop) (P46 : kS → Int32 → Prop) (l1 : Int32) (i2 : Nat) (l3 : Int32) (l4 : Int32) (σ : kS) : Prop :=
  ∀ P82 : Int32 → Int32 → Prop, (∀ (l3 : Int32) (l4 : Int32), (((kshr (kLenS i2) 0) ≤ l4 → wX1_nextWord_128 Q P46 l1 l3 σ) ∧ (¬ (kshr (kLenS i2) 0) ≤ l4 → (l3 = 0 → wX1_nextWord_128 Q P46 l1 l3 σ) ∧ (¬ l3 = 0 → vp_in ((σ.1 30 4) + l4) 160 ∧ vp_in l4 (kSlen.getD i2 0) ∧ ((σ.1 31 ((σ.1 30 4) + l4).toNatClampNeg) ≠ (kChr i2 l4) → ∀ x12 : Int32, x12 = l4 + (1 : Int32) → P82 (0 : Int32) x12) ∧ ((σ.1 31 ((σ.1 30 4) + l4).toNatClampNeg) = (kChr i2 l4) → ∀ x13 : Int32, x13 = l4 + (1 : Int32) → P82 (1 : Int32) x13)))) → P82 l3 l4) → P82 l3 l4
def wX1_nextWord_46 (Q : kS → Prop) (l1 : Int32) (σ : kS) : Prop :=
  ∀ P46 : kS → Int32 → Prop, (∀ (σ : kS) (l1 : Int32), (((12 : Int32) ≤ l1 → Q σ) ∧ (¬ (12 : Int32) ≤ l1 → wX1_wordOf l1 (fun r7 => ((kshr (kLenS r7) 0) ≠ ((σ.1 30 2) - (σ.1 30 4)) → wX1_nextWord_82 Q P46 l1 r7 (0 : Int32) (0 : Int32) σ) ∧ ((kshr (kLenS r7) 0) = ((σ.1 30 2) - (σ.1 30 4)) → wX1_nextWord_82 Q P46 l1 r7 (1 : Int32) (0 : Int32) σ)))) → P46 σ l1) → P46 σ l1
def wX1_nextWord_39 (Q : kS → Prop) (σ : kS) : Prop :=
  ∀ s5 : kS, s5 = kset σ 30 3 (1 : Int32) → wX1_nextWord_46 Q (0 : Int32) s5
def wX1_nextWord_0 (Q : kS → Prop) (σ : kS) : Prop :=
  ∀ P0 : kS → Prop, (∀ (σ : kS), (((σ.1 30 1) ≤ (σ.1 30 2) → wX1_nextWord_39 Q σ) ∧ (¬ (σ.1 30 1) ≤ (σ.1 30 2) → vp_in (σ.1 30 2) 160 ∧ wX1_isLetter (σ.1 31 (σ.1 30 2).toNatClampNeg) (fun r2 => (r2 = 0 → wX1_nextWord_39 Q σ) ∧ (¬ r2 = 0 → ∀ s4 : kS, s4 = kset σ 30 2 ((σ.1 30 2) + (1 : Int32)) → P0 s4)))) → P0 σ) → P0 σ
def wX1_nextWord (σ : kS) (Q : kS → Prop) : Prop :=
  wX1_nextWord_0 Q σ
def wX1_isDigit (l0 : Int32) (Q : Int32 → Prop) : Prop :=
  (l0 < (48 : Int32) → Q (0 : Int32)) ∧ (¬ l0 < (48 : Int32) → ((57 : Int32) < l0 → Q (0 : Int32)) ∧ (¬ (57 : Int32) < l0 → Q (1 : Int32)))
def wX1_nextNumber_87 (Q : kS → Prop) (ks0 : Int32) (σ : kS) : Prop :=
  ∀ s8 : kS, s8 = kset σ 30 3 ks0 → Q s8
def wX1_nextNumber_68 (Q : kS → Prop) (σ : kS) : Prop :=
  ((4 : Int32) < ((σ.1 30 2) - (σ.1 30 4)) → wX1_nextNumber_87 Q (1 : Int32) σ) ∧ (¬ (4 : Int32) < ((σ.1 30 2) - (σ.1 30 4)) → wX1_nextNumber_87 Q (2 : Int32) σ)
def wX1_nextNumber_5 (Q : kS → Prop) (σ : kS) : Prop :=
  ∀ P5 : kS → Prop, (∀ (σ : kS), (((σ.1 30 1) ≤ (σ.1 30 2) → wX1_nextNumber_68 Q σ) ∧ (¬ (σ.1 30 1) ≤ (σ.1 30 2) → vp_in (σ.1 30 2) 160 ∧ wX1_isDigit (σ.1 31 (σ.1 30 2).toNatClampNeg) (fun r3 => (r3 = 0 → wX1_nextNumber_68 Q σ) ∧ (¬ r3 = 0 → vp_in (σ.1 30 2) 160 ∧ ∀ s5 : kS, s5 = kset σ 30 5 ((((σ.1 30 5) * (10 : Int32)) + (σ.1 31 (σ.1 30 2).toNatClampNeg)) - (48 : Int32)) → ∀ s6 : kS, s6 = kset s5 30 2 ((s5.1 30 2) + (1 : Int32)) → P5 s6)))) → P5 σ) → P5 σ
def wX1_nextNumber (σ : kS) (Q : kS → Prop) : Prop :=
  ∀ s1 : kS, s1 = kset σ 30 5 (0 : Int32) → wX1_nextNumber_5 Q s1
def wX1_isSign (l0 : Int32) (Q : Int32 → Prop) : Prop :=
  (l0 = (40 : Int32) → Q (1 : Int32)) ∧ (¬ l0 = (40 : Int32) → (l0 = (41 : Int32) → Q (1 : Int32)) ∧ (¬ l0 = (41 : Int32) → (l0 = (59 : Int32) → Q (1 : Int32)) ∧ (¬ l0 = (59 : Int32) → (l0 = (43 : Int32) → Q (1 : Int32)) ∧ (¬ l0 = (43 : Int32) → (l0 = (45 : Int32) → Q (1 : Int32)) ∧ (¬ l0 = (45 : Int32) → (l0 = (42 : Int32) → Q (1 : Int32)) ∧ (¬ l0 = (42 : Int32) → (l0 = (60 : Int32) → Q (1 : Int32)) ∧ (¬ l0 = (60 : Int32) → (l0 ≠ (61 : Int32) → Q (0 : Int32)) ∧ (l0 = (61 : Int32) → Q (1 : Int32)))))))))
def wX1_next_48 (Q : kS → Prop) (P9 : kS → Prop) (σ : kS) : Prop :=
  ∀ s16 : kS, s16 = kset σ 30 2 ((σ.1 30 2) + (1 : Int32)) → P9 s16
def wX1_next_161 (Q : kS → Prop) (ks0 : Int32) (σ : kS) : Prop :=
  ∀ s17 : kS, s17 = kset σ 30 3 ks0 → ∀ s18 : kS, s18 = kset s17 30 2 ((s17.1 30 2) + (1 : Int32)) → Q s18
def wX1_next_61 (Q : kS → Prop) (σ : kS) : Prop :=
  ∀ s5 : kS, s5 = kset σ 30 4 (σ.1 30 2) → ((s5.1 30 2) < (s5.1 30 1) → vp_in (s5.1 30 2) 160 ∧ wX1_isLetter (s5.1 31 (s5.1 30 2).toNatClampNeg) (fun r7 => (r7 = 0 → vp_in (s5.1 30 2) 160 ∧ wX1_isDigit (s5.1 31 (s5.1 30 2).toNatClampNeg) (fun r9 => (r9 = 0 → vp_in (s5.1 30 2) 160 ∧ wX1_isSign (s5.1 31 (s5.1 30 2).toNatClampNeg) (fun r11 => (r11 = 0 → wX1_next_161 Q (1 : Int32) s5) ∧ (¬ r11 = 0 → vp_in (s5.1 30 2) 160 ∧ wX1_next_161 Q (s5.1 31 (s5.1 30 2).toNatClampNeg) s5))) ∧ (¬ r9 = 0 → wX1_nextNumber s5 (fun s13 => Q s13)))) ∧ (¬ r7 = 0 → wX1_nextWord s5 (fun s14 => Q s14)))) ∧ (¬ (s5.1 30 2) < (s5.1 30 1) → ∀ s15 : kS, s15 = kset s5 30 3 (0 : Int32) → Q s15)
def wX1_next_9 (Q : kS → Prop) (σ : kS) : Prop :=
  ∀ P9 : kS → Prop, (∀ (σ : kS), (((σ.1 30 1) ≤ (σ.1 30 2) → wX1_next_61 Q σ) ∧ (¬ (σ.1 30 1) ≤ (σ.1 30 2) → vp_in (σ.1 30 2) 160 ∧ ((σ.1 31 (σ.1 30 2).toNatClampNeg) = (32 : Int32) → wX1_next_48 Q P9 σ) ∧ (¬ (σ.1 31 (σ.1 30 2).toNatClampNeg) = (32 : Int32) → vp_in (σ.1 30 2) 160 ∧ ((σ.1 31 (σ.1 30 2).toNatClampNeg) ≠ (10 : Int32) → wX1_next_61 Q σ) ∧ ((σ.1 31 (σ.1 30 2).toNatClampNeg) = (10 : Int32) → wX1_next_48 Q P9 σ)))) → P9 σ) → P9 σ
def wX1_next (σ : kS) (Q : kS → Prop) : Prop :=
  ((σ.1 30 6) = (-1 : Int32) → wX1_next_9 Q σ) ∧ (¬ (σ.1 30 6) = (-1 : Int32) → Q σ)
def wX1_fail (σ : kS) (Q : kS → Prop) : Prop :=
  ((σ.1 30 6) ≠ (-1 : Int32) → Q σ) ∧ ((σ.1 30 6) = (-1 : Int32) → ∀ s2 : kS, s2 = kset σ 30 6 (σ.1 30 4) → ∀ s3 : kS, s3 = kset s2 30 3 (1 : Int32) → Q s3)
def wX1_expect (l1 : Int32) (σ : kS) (Q : kS → Prop) : Prop :=
  ((σ.1 30 3) ≠ l1 → wX1_fail σ (fun s2 => Q s2)) ∧ ((σ.1 30 3) = l1 → wX1_next σ (fun s3 => Q s3))
def wX1_emit (l1 : Int32) (σ : kS) (Q : kS → Prop) : Prop :=
  ((160 : Int32) ≤ (σ.1 30 8) → Q σ) ∧ (¬ (160 : Int32) ≤ (σ.1 30 8) → vp_in (σ.1 30 8) 160 ∧ ∀ s2 : kS, s2 = kset σ 32 (σ.1 30 8).toNatClampNeg l1 → ∀ s3 : kS, s3 = kset s2 30 8 ((s2.1 30 8) + (1 : Int32)) → Q s3)
def wX2_has (l1 : Int32) (σ : kS) (Q : Int32 → kS → Prop) : Prop :=
  (l1 < 0 → Q (0 : Int32) σ) ∧ (¬ l1 < 0 → ((4 : Int32) ≤ l1 → Q (0 : Int32) σ) ∧ (¬ (4 : Int32) ≤ l1 → Q (1 : Int32) σ))
def wX2_isMissing (l1 : Int32) (σ : kS) (Q : Int32 → kS → Prop) : Prop :=
  wX2_has l1 σ (fun r2 s1 => (r2 = 0 → Q (1 : Int32) s1) ∧ (¬ r2 = 0 → vp_in l1 4 ∧ ((s1.1 39 l1.toNatClampNeg) ≠ (-1 : Int32) → Q (0 : Int32) s1) ∧ ((s1.1 39 l1.toNatClampNeg) = (-1 : Int32) → Q (1 : Int32) s1)))
def wX2_sort (l1 : Int32) (σ : kS) (Q : Int32 → kS → Prop) : Prop :=
  wX2_has l1 σ (fun r2 s1 => (r2 = 0 → Q (-1 : Int32) s1) ∧ (¬ r2 = 0 → vp_in l1 4 ∧ Q (s1.1 39 l1.toNatClampNeg) s1))
def wX2_size (l1 : Int32) (σ : kS) (Q : Int32 → kS → Prop) : Prop :=
  wX2_has l1 σ (fun r2 s1 => (r2 = 0 → Q (0 : Int32) s1) ∧ (¬ r2 = 0 → vp_in l1 4 ∧ Q (s1.1 40 l1.toNatClampNeg) s1))
def wX2_hasItem (l1 : Int32) (l2 : Int32) (σ : kS) (Q : Int32 → kS → Prop) : Prop :=
  (l2 < 0 → Q (0 : Int32) σ) ∧ (¬ l2 < 0 → wX2_size l1 σ (fun r3 s2 => (r3 ≤ l2 → Q (0 : Int32) s2) ∧ (¬ r3 ≤ l2 → Q (1 : Int32) s2)))
def wX2_hasItems (l1 : Int32) (l2 : Int32) (l3 : Int32) (σ : kS) (Q : Int32 → kS → Prop) : Prop :=
  (l2 < 0 → Q (0 : Int32) σ) ∧ (¬ l2 < 0 → (l3 < 0 → Q (0 : Int32) σ) ∧ (¬ l3 < 0 → wX2_size l1 σ (fun r4 s3 => ((r4 - l3) < l2 → Q (0 : Int32) s3) ∧ (¬ (r4 - l3) < l2 → Q (1 : Int32) s3))))
def wX2_drop (l1 : Int32) (σ : kS) (Q : kS → Prop) : Prop :=
  wX2_has l1 σ (fun r2 s1 => (r2 = 0 → Q s1) ∧ (¬ r2 = 0 → vp_in l1 4 ∧ ∀ s4 : kS, s4 = kset s1 39 l1.toNatClampNeg (-1 : Int32) → vp_in l1 4 ∧ ∀ s5 : kS, s5 = kset s4 40 l1.toNatClampNeg (0 : Int32) → Q s5))
def wX2_make_35 (Q : kS → Prop) (l1 : Int32) (l3 : Int32) (l4 : Int32) (σ : kS) : Prop :=
  ∀ P35 : kS → Int32 → Prop, (∀ (σ : kS) (l4 : Int32), ((l3 ≤ l4 → Q σ) ∧ (¬ l3 ≤ l4 → vp_in l1 4 ∧ vp_in l4 40 ∧ ∀ s10 : kS, s10 = kset σ (35 + l1.toNatClampNeg) l4.toNatClampNeg (0 : Int32) → ∀ x11 : Int32, x11 = l4 + (1 : Int32) → P35 s10 x11)) → P35 σ l4) → P35 σ l4
def wX2_make (l1 : Int32) (l2 : Int32) (l3 : Int32) (σ : kS) (Q : kS → Prop) : Prop :=
  wX2_has l1 σ (fun r2 s1 => (r2 = 0 → Q s1) ∧ (¬ r2 = 0 → (l3 < 0 → Q s1) ∧ (¬ l3 < 0 → ((40 : Int32) < l3 → Q s1) ∧ (¬ (40 : Int32) < l3 → vp_in l1 4 ∧ ∀ s6 : kS, s6 = kset s1 39 l1.toNatClampNeg l2 → vp_in l1 4 ∧ ∀ s7 : kS, s7 = kset s6 40 l1.toNatClampNeg l3 → wX2_make_35 Q l1 l3 (0 : Int32) s7))))
def wX2_at (l1 : Int32) (l2 : Int32) (σ : kS) (Q : Int32 → kS → Prop) : Prop :=
  wX2_hasItem l1 l2 σ (fun r2 s1 => (r2 = 0 → Q (0 : Int32) s1) ∧ (¬ r2 = 0 → vp_in l1 4 ∧ vp_in l2 40 ∧ Q (s1.1 (35 + l1.toNatClampNeg) l2.toNatClampNeg) s1))
def wX2_narrowed (l0 : Int32) (l1 : Int32) (Q : Int32 → Prop) : Prop :=
  (l0 ≠ 0 → (l0 ≠ (1 : Int32) → Q l1) ∧ (l0 = (1 : Int32) → Q l1.toInt16.toInt32)) ∧ (l0 = 0 → Q l1.toInt8.toInt32)
def wX2_put (l1 : Int32) (l2 : Int32) (l3 : Int32) (σ : kS) (Q : kS → Prop) : Prop :=
  wX2_hasItem l1 l2 σ (fun r2 s1 => (r2 = 0 → Q s1) ∧ (¬ r2 = 0 → vp_in l1 4 ∧ vp_in l1 4 ∧ wX2_narrowed (s1.1 39 l1.toNatClampNeg) l3 (fun r5 => vp_in l2 40 ∧ ∀ s6 : kS, s6 = kset s1 (35 + l1.toNatClampNeg) l2.toNatClampNeg r5 → Q s6)))
def wX2_move (l1 : Int32) (l2 : Int32) (l3 : Int32) (l4 : Int32) (l5 : Int32) (σ : kS) (Q : kS → Prop) : Prop :=
  wX2_hasItems l1 l2 l5 σ (fun r2 s1 => (r2 = 0 → Q s1) ∧ (¬ r2 = 0 → wX2_hasItems l3 l4 l5 s1 (fun r5 s4 => (r5 = 0 → Q s4) ∧ (¬ r5 = 0 → vp_in l1 4 ∧ vp_in l3 4 ∧ ((¬ l2 < 0) ∧ (¬ l4 < 0) ∧ (¬ l5 < 0) ∧ l2.toNatClampNeg + l5.toNatClampNeg ≤ 40 ∧ l4.toNatClampNeg + l5.toNatClampNeg ≤ 40) ∧ ∀ s9 : kS, s9 = kput s4 (35 + l3.toNatClampNeg) (va_cpy (s4.1 (35 + l1.toNatClampNeg)) (s4.1 (35 + l3.toNatClampNeg)) l2.toNatClampNeg l4.toNatClampNeg l5.toNatClampNeg) → Q s9))))
def wX4_set (l1 : Int32) (l2 : Int32) (l3 : Int32) (σ : kS) (Q : Int32 → kS → Prop) : Prop :=
  ((7 : Int32) < l1 → Q (-2 : Int32) σ) ∧ (¬ (7 : Int32) < l1 → wX0_has 3 l1 l2 σ (fun r3 s2 => (r3 = 0 → Q (-2 : Int32) s2) ∧ (¬ r3 = 0 → (l3 < 0 → Q (-2 : Int32) s2) ∧ (¬ l3 < 0 → wX0_most l1 (fun r6 => (l3 ≤ r6 → wX0_get 3 l1 l2 s2 (fun r9 s8 => wX0_put 3 l1 l2 l3 s8 (fun s10 => Q r9 s10))) ∧ (¬ l3 ≤ r6 → Q (-2 : Int32) s2))))))
def wX4_isWork (l0 : Int32) (l1 : Int32) (l2 : Int32) (Q : Int32 → Prop) : Prop :=
  (l0 < 0 → Q (0 : Int32)) ∧ (¬ l0 < 0 → ((6 : Int32) ≤ l0 → Q (0 : Int32)) ∧ (¬ (6 : Int32) ≤ l0 → (l1 < 0 → Q (0 : Int32)) ∧ (¬ l1 < 0 → ((10 : Int32) ≤ l1 → Q (0 : Int32)) ∧ (¬ (10 : Int32) ≤ l1 → wX4_isCell l2 (fun r5 => (r5 = 0 → Q (0 : Int32)) ∧ (¬ r5 = 0 → Q (1 : Int32)))))))
def wX4_work (l1 : Int32) (l2 : Int32) (l3 : Int32) (σ : kS) (Q : Int32 → kS → Prop) : Prop :=
  wX4_isWork l1 l2 l3 (fun r1 => (r1 ≠ 0 → ((σ.1 3 11) < (6 : Int32) → wX0_add 3 l1 l2 l3 σ (fun s4 => Q ((s4.1 3 11) - (1 : Int32)) s4)) ∧ (¬ (σ.1 3 11) < (6 : Int32) → Q (-4 : Int32) σ)) ∧ (r1 = 0 → Q (-2 : Int32) σ))
def wX4_ruleOf (tx : List kTxt) (b1 : Nat) (σ : kS) (Q : kTxt → kS → Prop) : Prop :=
  ((σ.1 b1 12) < 0 → ∃ T2 : kTxt, tx[(0 : Int32).toNatClampNeg]? = some T2 ∧ Q T2 σ) ∧ (¬ (σ.1 b1 12) < 0 → ((σ.1 0 5) ≤ (σ.1 b1 12) → ∃ T4 : kTxt, tx[(0 : Int32).toNatClampNeg]? = some T4 ∧ Q T4 σ) ∧ (¬ (σ.1 0 5) ≤ (σ.1 b1 12) → vp_in (σ.1 b1 12) 6 ∧ ∃ T5 : kTxt, tx[(σ.1 b1 12).toNatClampNeg]? = some T5 ∧ Q T5 σ))
def wX4_told (tx : List kTxt) (l1 : Int32) (l2 : Int32) (σ : kS) (Q : Int32 → kS → Prop) : Prop :=
  wX0_has 3 l2 l1 σ (fun r2 s1 => (r2 ≠ 0 → (l2 ≠ (9 : Int32) → (l2 ≠ (10 : Int32) → wX0_get 3 l2 l1 s1 (fun r7 s6 => Q r7 s6)) ∧ (l2 = (10 : Int32) → wX4_ruleOf tx 3 s1 (fun r9 s8 => wX0_costs 3 r9 l1 s8 (fun r11 s10 => Q r11 s10)))) ∧ (l2 = (9 : Int32) → wX0_drawsOfOwn 3 l1 s1 (fun r13 s12 => Q r13 s12))) ∧ (r2 = 0 → Q (-2 : Int32) s1))
def wX4_feed (l1 : Int32) (σ : kS) (Q : Int32 → kS → Prop) : Prop :=
  (l1 < 0 → Q (-2 : Int32) σ) ∧ (¬ l1 < 0 → (l1 ≤ (255 : Int32) → wX1_put l1 σ (fun r4 s3 => (r4 = 0 → Q (-4 : Int32) s3) ∧ (¬ r4 = 0 → wX1_size s3 (fun r7 s6 => Q r7 s6)))) ∧ (¬ l1 ≤ (255 : Int32) → Q (-2 : Int32) σ))
def wX4_force (l1 : Int32) (σ : kS) (Q : Int32 → kS → Prop) : Prop :=
  (l1 < 0 → Q (-2 : Int32) σ) ∧ (¬ l1 < 0 → (l1 < (σ.1 0 5) → ∀ x3 : Int32, x3 = σ.1 3 12 → ∀ s4 : kS, s4 = kset σ 3 12 l1 → Q x3 s4) ∧ (¬ l1 < (σ.1 0 5) → Q (-2 : Int32) σ))
def wX4_asks (tx : List kTxt) (l1 : Int32) (l2 : Int32) (σ : kS) (Q : Int32 → kS → Prop) : Prop :=
  (l1 < 0 → Q (-2 : Int32) σ) ∧ (¬ l1 < 0 → ((1 : Int32) < l1 → Q (-2 : Int32) σ) ∧ (¬ (1 : Int32) < l1 → wX4_isCell l2 (fun r3 => (r3 ≠ 0 → wX4_ruleOf tx 3 σ (fun r6 s5 => wX0_says 3 r6 l1 l2 (-1 : Int32) s5 (fun r8 s7 => Q r8 s7))) ∧ (r3 = 0 → Q (-2 : Int32) σ))))
def wX4_year (tx : List kTxt) (σ : kS) (Q : Int32 → kS → Prop) : Prop :=
  ((σ.1 3 9) < (999 : Int32) → wX4_ruleOf tx 3 σ (fun r3 s2 => wX0_passYear 3 r3 s2 (fun s4 => wX0_dryCells 3 s4 (fun r6 s5 => wJ6_bitCount r6 (fun r7 => Q r7 s5))))) ∧ (¬ (σ.1 3 9) < (999 : Int32) → Q (-3 : Int32) σ)
def wX4_areYears (l0 : Int32) (Q : Int32 → Prop) : Prop :=
  (l0 < 0 → Q (0 : Int32)) ∧ (¬ l0 < 0 → ((30 : Int32) < l0 → Q (0 : Int32)) ∧ (¬ (30 : Int32) < l0 → Q (1 : Int32)))
def wX4_isOfRun_9 (Q : Int32 → Prop) (l0 : Int32) : Prop :=
  (l0 < (100 : Int32) → Q (0 : Int32)) ∧ (¬ l0 < (100 : Int32) → ((400 : Int32) ≤ l0 → Q (0 : Int32)) ∧ (¬ (400 : Int32) ≤ l0 → ((12 : Int32) ≤ (krem l0 (100 : Int32)) → Q (0 : Int32)) ∧ (¬ (12 : Int32) ≤ (krem l0 (100 : Int32)) → Q (1 : Int32))))
def wX4_isOfRun (l0 : Int32) (Q : Int32 → Prop) : Prop :=
  (l0 < 0 → wX4_isOfRun_9 Q l0) ∧ (¬ l0 < 0 → (l0 ≤ (4 : Int32) → Q (1 : Int32)) ∧ (¬ l0 ≤ (4 : Int32) → wX4_isOfRun_9 Q l0))
def wX4_think (σ : kS) (Q : kS → Prop) : Prop :=
  wX0_take 12 3 σ (fun s1 => Q s1)
def wX4_thinkYears_6 (tx : List kTxt) (Q : kS → Prop) (l1 : Int32) (l2 : Int32) (σ : kS) : Prop :=
  ∀ P6 : kS → Int32 → Prop, (∀ (σ : kS) (l2 : Int32), ((l1 ≤ l2 → Q σ) ∧ (¬ l1 ≤ l2 → ((Int32.ofNat 30) ≤ l2 → Q σ) ∧ (¬ (Int32.ofNat 30) ≤ l2 → wX4_ruleOf tx 12 σ (fun r5 s4 => wX0_passYear 12 r5 s4 (fun s6 => wX0_dryCells 12 s6 (fun r8 s7 => vp_in l2 30 ∧ ∀ s9 : kS, s9 = kset s7 1 l2.toNatClampNeg r8 → ∀ x10 : Int32, x10 = l2 + (1 : Int32) → P6 s9 x10)))))) → P6 σ l2) → P6 σ l2
def wX4_thinkYears (tx : List kTxt) (l1 : Int32) (σ : kS) (Q : kS → Prop) : Prop :=
  wX4_think σ (fun s1 => wX4_thinkYears_6 tx Q l1 (0 : Int32) s1)
def wX4_mostDry_4 (Q : Int32 → kS → Prop) (l1 : Int32) (l2 : Int32) (l3 : Int32) (σ : kS) : Prop :=
  ∀ P4 : Int32 → Int32 → Prop, (∀ (l2 : Int32) (l3 : Int32), ((l1 ≤ l3 → Q l2 σ) ∧ (¬ l1 ≤ l3 → ((Int32.ofNat 30) ≤ l3 → Q l2 σ) ∧ (¬ (Int32.ofNat 30) ≤ l3 → vp_in l3 30 ∧ wJ6_bitCount (σ.1 1 l3.toNatClampNeg) (fun r3 => ∀ x4 : Int32, x4 = (if l2 < r3 then r3 else l2) → ∀ x5 : Int32, x5 = l3 + (1 : Int32) → P4 x4 x5)))) → P4 l2 l3) → P4 l2 l3
def wX4_mostDry (l1 : Int32) (σ : kS) (Q : Int32 → kS → Prop) : Prop :=
  wX4_mostDry_4 Q l1 (0 : Int32) (0 : Int32) σ
def wX4_firstDried_2 (Q : Int32 → kS → Prop) (l1 : Int32) (l2 : Int32) (l3 : Int32) (σ : kS) : Prop :=
  ∀ P2 : Int32 → Prop, (∀ (l3 : Int32), ((l1 ≤ l3 → Q (-1 : Int32) σ) ∧ (¬ l1 ≤ l3 → ((Int32.ofNat 30) ≤ l3 → Q (-1 : Int32) σ) ∧ (¬ (Int32.ofNat 30) ≤ l3 → vp_in l3 30 ∧ wJ6_bitCount (σ.1 1 l3.toNatClampNeg) (fun r3 => (r3 < l2 → ∀ x5 : Int32, x5 = l3 + (1 : Int32) → P2 x5) ∧ (¬ r3 < l2 → Q l3 σ))))) → P2 l3) → P2 l3
def wX4_firstDried (l1 : Int32) (l2 : Int32) (σ : kS) (Q : Int32 → kS → Prop) : Prop :=
  wX4_firstDried_2 Q l1 l2 (0 : Int32) σ
def wX4_judged (l1 : Int32) (σ : kS) (Q : Int32 → kS → Prop) : Prop :=
  wX4_mostDry l1 σ (fun r2 s1 => wX4_firstDried l1 r2 s1 (fun r4 s3 => Q r4 s3))
def wX4_keptYears_7 (Q : Int32 → kS → Prop) (l1 : Int32) (l2 : Int32) (l3 : Int32) (l4 : Int32) (σ : kS) : Prop :=
  ∀ P7 : Int32 → Int32 → Int32 → Prop, (∀ (l2 : Int32) (l3 : Int32) (l4 : Int32), ((l1 ≤ l4 → Q l2 σ) ∧ (¬ l1 ≤ l4 → ((Int32.ofNat 30) ≤ l4 → Q l2 σ) ∧ (¬ (Int32.ofNat 30) ≤ l4 → vp_in l4 30 ∧ wJ6_bitCount (σ.1 1 l4.toNatClampNeg) (fun r3 => (r3 < l3 → ∀ x5 : Int32, x5 = l4 + (1 : Int32) → P7 l2 l3 x5) ∧ (¬ r3 < l3 → ∀ x6 : Int32, x6 = l2 + (1 : Int32) → ∀ x7 : Int32, x7 = l4 + (1 : Int32) → P7 x6 r3 x7))))) → P7 l2 l3 l4) → P7 l2 l3 l4
def wX4_keptYears (l1 : Int32) (σ : kS) (Q : Int32 → kS → Prop) : Prop :=
  wX4_keptYears_7 Q l1 (0 : Int32) (0 : Int32) (0 : Int32) σ
def wX4_run (tx : List kTxt) (l1 : Int32) (l2 : Int32) (σ : kS) (Q : Int32 → kS → Prop) : Prop :=
  wX4_areYears l1 (fun r1 => (r1 = 0 → Q (-2 : Int32) σ) ∧ (¬ r1 = 0 → wX4_isOfRun l2 (fun r3 => (r3 ≠ 0 → wX4_thinkYears tx l1 σ (fun s5 => (l2 = (0 : Int32) → wX0_dryCells 12 s5 (fun r8 s7 => Q r8 s7)) ∧ (l2 = (1 : Int32) → Q ((s5.1 12 10) - (s5.1 3 10)) s5) ∧ (l2 = (2 : Int32) → wX4_judged l1 s5 (fun r12 s11 => Q r12 s11)) ∧ (l2 = (3 : Int32) → (l1 ≠ 0 → wX4_mostDry l1 s5 (fun r16 s15 => Q r16 s15)) ∧ (l1 = 0 → Q (-1 : Int32) s5)) ∧ (l2 = (4 : Int32) → wX4_keptYears l1 s5 (fun r19 s18 => Q r19 s18)) ∧ (¬ l2 = (0 : Int32) → ¬ l2 = (1 : Int32) → ¬ l2 = (2 : Int32) → ¬ l2 = (3 : Int32) → ¬ l2 = (4 : Int32) → wX0_get 12 (((2 : Int32) + (l2 / (100 : Int32))) - (1 : Int32)) (krem l2 (100 : Int32)) s5 (fun r21 s20 => Q r21 s20)))) ∧ (r3 = 0 → Q (-2 : Int32) σ))))
def wX4_first (tx : List kTxt) (l1 : Int32) (l2 : Int32) (σ : kS) (Q : Int32 → kS → Prop) : Prop :=
  wX4_areYears l1 (fun r1 => (r1 = 0 → Q (-2 : Int32) σ) ∧ (¬ r1 = 0 → (l2 < (1 : Int32) → Q (-2 : Int32) σ) ∧ (¬ l2 < (1 : Int32) → (l2 ≤ (12 : Int32) → wX4_thinkYears tx l1 σ (fun s5 => wX4_firstDried l1 l2 s5 (fun r7 s6 => Q r7 s6))) ∧ (¬ l2 ≤ (12 : Int32) → Q (-2 : Int32) σ))))
def wX4_dryBehind_2 (tx : List kTxt) (Q : Int32 → kS → Prop) (l1 : Int32) (l2 : Int32) (σ : kS) : Prop :=
  ∀ P2 : kS → Int32 → Prop, (∀ (σ : kS) (l2 : Int32), ((l1 ≤ l2 → wX0_dryCells 12 σ (fun r3 s2 => Q r3 s2)) ∧ (¬ l1 ≤ l2 → wX4_ruleOf tx 12 σ (fun r5 s4 => wX0_passYear 12 r5 s4 (fun s6 => ∀ x7 : Int32, x7 = l2 + (1 : Int32) → P2 s6 x7)))) → P2 σ l2) → P2 σ l2
def wX4_dryBehind (tx : List kTxt) (l1 : Int32) (σ : kS) (Q : Int32 → kS → Prop) : Prop :=
  wX4_dryBehind_2 tx Q l1 (0 : Int32) σ
def wX4_where_53 (tx : List kTxt) (Q : Int32 → kS → Prop) (l1 : Int32) (l2 : Int32) (l3 : Int32) (l4 : Int32) (l5 : Int32) (l6 : Int32) (σ : kS) : Prop :=
  ∀ P53 : kS → Int32 → Int32 → Int32 → Prop, (∀ (σ : kS) (l4 : Int32) (l5 : Int32) (l6 : Int32), (((12 : Int32) ≤ l6 → (l3 ≠ 0 → Q l5 σ) ∧ (l3 = 0 → Q l4 σ)) ∧ (¬ (12 : Int32) ≤ l6 → wX4_think σ (fun s10 => wX0_add 12 (l1 / (10 : Int32)) (krem l1 (10 : Int32)) l6 s10 (fun s11 => wX4_dryBehind tx l2 s11 (fun r13 s12 => wJ6_bitCount r13 (fun r14 => (r14 ≤ l5 → ∀ x16 : Int32, x16 = l6 + (1 : Int32) → P53 s12 l4 l5 x16) ∧ (¬ r14 ≤ l5 → ∀ x17 : Int32, x17 = l6 + (1 : Int32) → P53 s12 l6 r14 x17))))))) → P53 σ l4 l5 l6) → P53 σ l4 l5 l6
def wX4_where (tx : List kTxt) (l1 : Int32) (l2 : Int32) (l3 : Int32) (σ : kS) (Q : Int32 → kS → Prop) : Prop :=
  (l1 < 0 → Q (-2 : Int32) σ) ∧ (¬ l1 < 0 → ((60 : Int32) ≤ l1 → Q (-2 : Int32) σ) ∧ (¬ (60 : Int32) ≤ l1 → wX4_areYears l2 (fun r3 => (r3 = 0 → Q (-2 : Int32) σ) ∧ (¬ r3 = 0 → (l3 < 0 → Q (-2 : Int32) σ) ∧ (¬ l3 < 0 → (l3 ≤ (1 : Int32) → ((σ.1 3 11) < (6 : Int32) → wX4_where_53 tx Q l1 l2 l3 (0 : Int32) (-1 : Int32) (0 : Int32) σ) ∧ (¬ (σ.1 3 11) < (6 : Int32) → Q (-4 : Int32) σ)) ∧ (¬ l3 ≤ (1 : Int32) → Q (-2 : Int32) σ))))))
def wX4_dryWithout (tx : List kTxt) (l1 : Int32) (l2 : Int32) (σ : kS) (Q : Int32 → kS → Prop) : Prop :=
  wX4_think σ (fun s1 => wX0_put 12 (7 : Int32) l1 (0 : Int32) s1 (fun s2 => wX4_dryBehind tx l2 s2 (fun r4 s3 => Q r4 s3)))
def wX4_idle_25 (tx : List kTxt) (Q : Int32 → kS → Prop) (l1 : Int32) (l2 : Int32) (l3 : Int32) (σ : kS) : Prop :=
  ∀ P25 : kS → Int32 → Prop, (∀ (σ : kS) (l3 : Int32), (((σ.1 3 11) ≤ l3 → Q (-1 : Int32) σ) ∧ (¬ (σ.1 3 11) ≤ l3 → wX0_goes 3 l3 σ (fun r9 s8 => (r9 = 0 → ∀ x11 : Int32, x11 = l3 + (1 : Int32) → P25 s8 x11) ∧ (¬ r9 = 0 → wX4_dryWithout tx l3 l1 s8 (fun r13 s12 => wJ6_bitCount r13 (fun r14 => (r14 < l2 → ∀ x16 : Int32, x16 = l3 + (1 : Int32) → P25 s12 x16) ∧ (¬ r14 < l2 → Q l3 s12))))))) → P25 σ l3) → P25 σ l3
def wX4_idle (tx : List kTxt) (l1 : Int32) (σ : kS) (Q : Int32 → kS → Prop) : Prop :=
  wX4_areYears l1 (fun r1 => (r1 ≠ 0 → wX4_think σ (fun s3 => wX4_dryBehind tx l1 s3 (fun r5 s4 => wJ6_bitCount r5 (fun r6 => wX4_idle_25 tx Q l1 r6 (0 : Int32) s4)))) ∧ (r1 = 0 → Q (-2 : Int32) σ))
def wX4_low_24 (tx : List kTxt) (Q : Int32 → kS → Prop) (l1 : Int32) (l2 : Int32) (l3 : Int32) (σ : kS) : Prop :=
  ∀ P24 : kS → Int32 → Prop, (∀ (σ : kS) (l3 : Int32), ((l3 < 0 → Q (-1 : Int32) σ) ∧ (¬ l3 < 0 → wX4_think σ (fun s6 => ∀ s7 : kS, s7 = kset s6 12 8 l3 → wX4_dryBehind tx l1 s7 (fun r9 s8 => wJ6_bitCount r9 (fun r10 => (r10 < l2 → ∀ x12 : Int32, x12 = l3 + (-1 : Int32) → P24 s8 x12) ∧ (¬ r10 < l2 → Q l3 s8)))))) → P24 σ l3) → P24 σ l3
def wX4_low (tx : List kTxt) (l1 : Int32) (l2 : Int32) (σ : kS) (Q : Int32 → kS → Prop) : Prop :=
  wX4_areYears l1 (fun r1 => (r1 = 0 → Q (-2 : Int32) σ) ∧ (¬ r1 = 0 → (l2 < (1 : Int32) → Q (-2 : Int32) σ) ∧ (¬ l2 < (1 : Int32) → (l2 ≤ (12 : Int32) → wX4_low_24 tx Q l1 l2 (99 : Int32) σ) ∧ (¬ l2 ≤ (12 : Int32) → Q (-2 : Int32) σ))))
def wX4_floods (tx : List kTxt) (l1 : Int32) (l2 : Int32) (σ : kS) (Q : Int32 → kS → Prop) : Prop :=
  (l1 < 0 → Q (-2 : Int32) σ) ∧ (¬ l1 < 0 → ((σ.1 3 11) ≤ l1 → Q (-2 : Int32) σ) ∧ (¬ (σ.1 3 11) ≤ l1 → wX4_areYears l2 (fun r3 => (r3 ≠ 0 → wX4_think σ (fun s5 => wX4_dryBehind tx l2 s5 (fun r7 s6 => wX4_dryWithout tx l1 l2 s6 (fun r9 s8 => Q (r9 &&& (r7 ^^^ (-1 : Int32))) s8)))) ∧ (r3 = 0 → Q (-2 : Int32) σ))))
def wX4_isOfTells_9 (Q : Int32 → kS → Prop) (l1 : Int32) (σ : kS) : Prop :=
  (l1 < (10 : Int32) → Q (0 : Int32) σ) ∧ (¬ l1 < (10 : Int32) → ((40 : Int32) ≤ l1 → Q (0 : Int32) σ) ∧ (¬ (40 : Int32) ≤ l1 → ((σ.1 3 11) ≤ (krem l1 (10 : Int32)) → Q (0 : Int32) σ) ∧ (¬ (σ.1 3 11) ≤ (krem l1 (10 : Int32)) → Q (1 : Int32) σ)))
def wX4_isOfTells (l1 : Int32) (σ : kS) (Q : Int32 → kS → Prop) : Prop :=
  (l1 < 0 → wX4_isOfTells_9 Q l1 σ) ∧ (¬ l1 < 0 → (l1 ≤ (3 : Int32) → Q (1 : Int32) σ) ∧ (¬ l1 ≤ (3 : Int32) → wX4_isOfTells_9 Q l1 σ))
def wX4_firstOther_28 (tx : List kTxt) (Q : Int32 → kS → Prop) (l1 : Int32) (l5 : Int32) (l6 : Int32) (σ : kS) : Prop :=
  ∀ P28 : kS → Int32 → Prop, (∀ (σ : kS) (l6 : Int32), ((l5 ≤ l6 → Q (-1 : Int32) σ) ∧ (¬ l5 ≤ l6 → wX4_ruleOf tx 12 σ (fun r7 s6 => wX0_passYear 12 r7 s6 (fun s8 => wX0_dryCells 12 s8 (fun r10 s9 => wX2_at l1 l6 s9 (fun r12 s11 => (r10 = r12 → ∀ x14 : Int32, x14 = l6 + (1 : Int32) → P28 s11 x14) ∧ (¬ r10 = r12 → Q l6 s11))))))) → P28 σ l6) → P28 σ l6
def wX4_firstOther (tx : List kTxt) (l1 : Int32) (l2 : Int32) (l3 : Int32) (l4 : Int32) (σ : kS) (Q : Int32 → kS → Prop) : Prop :=
  wX4_think σ (fun s1 => wX0_put 12 l2 l3 l4 s1 (fun s2 => wX2_size l1 s2 (fun r4 s3 => wX4_firstOther_28 tx Q l1 r4 (0 : Int32) s3)))
def wX4_fitting_6 (tx : List kTxt) (Q : Int32 → kS → Prop) (l1 : Int32) (l2 : Int32) (l3 : Int32) (l4 : Int32) (l5 : Int32) (l6 : Int32) (σ : kS) : Prop :=
  ∀ P6 : kS → Int32 → Int32 → Prop, (∀ (σ : kS) (l5 : Int32) (l6 : Int32), ((l4 ≤ l6 → Q l5 σ) ∧ (¬ l4 ≤ l6 → wX4_firstOther tx l1 l2 l3 l6 σ (fun r3 s2 => (r3 ≠ (-1 : Int32) → ∀ x5 : Int32, x5 = l6 + (1 : Int32) → P6 s2 l5 x5) ∧ (r3 = (-1 : Int32) → ∀ x6 : Int32, x6 = l5 ||| (kshl (1 : Int32) l6) → ∀ x7 : Int32, x7 = l6 + (1 : Int32) → P6 s2 x6 x7)))) → P6 σ l5 l6) → P6 σ l5 l6
def wX4_fitting (tx : List kTxt) (l1 : Int32) (l2 : Int32) (l3 : Int32) (l4 : Int32) (σ : kS) (Q : Int32 → kS → Prop) : Prop :=
  wX4_fitting_6 tx Q l1 l2 l3 l4 (0 : Int32) (0 : Int32) σ
def wX4_fittingRivers_4 (tx : List kTxt) (Q : Int32 → kS → Prop) (l1 : Int32) (l2 : Int32) (l3 : Int32) (σ : kS) : Prop :=
  ∀ P4 : kS → Int32 → Int32 → Prop, (∀ (σ : kS) (l2 : Int32) (l3 : Int32), (((100 : Int32) ≤ l3 → Q l2 σ) ∧ (¬ (100 : Int32) ≤ l3 → wX4_firstOther tx l1 (0 : Int32) (0 : Int32) l3 σ (fun r3 s2 => (r3 ≠ (-1 : Int32) → ∀ x5 : Int32, x5 = l3 + (1 : Int32) → P4 s2 l2 x5) ∧ (r3 = (-1 : Int32) → ∀ x6 : Int32, x6 = l2 + (1 : Int32) → ∀ x7 : Int32, x7 = l3 + (1 : Int32) → P4 s2 x6 x7)))) → P4 σ l2 l3) → P4 σ l2 l3
def wX4_fittingRivers (tx : List kTxt) (l1 : Int32) (σ : kS) (Q : Int32 → kS → Prop) : Prop :=
  wX4_fittingRivers_4 tx Q l1 (0 : Int32) (0 : Int32) σ
def wX4_highestFittingRiver_3 (tx : List kTxt) (Q : Int32 → kS → Prop) (l1 : Int32) (l2 : Int32) (σ : kS) : Prop :=
  ∀ P3 : kS → Int32 → Prop, (∀ (σ : kS) (l2 : Int32), ((l2 < 0 → Q (-1 : Int32) σ) ∧ (¬ l2 < 0 → wX4_firstOther tx l1 (0 : Int32) (0 : Int32) l2 σ (fun r3 s2 => (r3 ≠ (-1 : Int32) → ∀ x5 : Int32, x5 = l2 + (-1 : Int32) → P3 s2 x5) ∧ (r3 = (-1 : Int32) → Q l2 s2)))) → P3 σ l2) → P3 σ l2
def wX4_highestFittingRiver (tx : List kTxt) (l1 : Int32) (σ : kS) (Q : Int32 → kS → Prop) : Prop :=
  wX4_highestFittingRiver_3 tx Q l1 (99 : Int32) σ
def wX4_toldOfWork (l0 : Int32) (Q : Int32 → Prop) : Prop :=
  ((l0 / (10 : Int32)) = (1 : Int32) → Q (8 : Int32)) ∧ ((l0 / (10 : Int32)) = (2 : Int32) → Q (5 : Int32)) ∧ (¬ (l0 / (10 : Int32)) = (1 : Int32) → ¬ (l0 / (10 : Int32)) = (2 : Int32) → Q (6 : Int32))
def wX4_tells (tx : List kTxt) (l1 : Int32) (l2 : Int32) (σ : kS) (Q : Int32 → kS → Prop) : Prop :=
  wX2_has l1 σ (fun r2 s1 => (r2 = 0 → Q (-2 : Int32) s1) ∧ (¬ r2 = 0 → wX4_isOfTells l2 s1 (fun r5 s4 => (r5 ≠ 0 → wX2_isMissing l1 s4 (fun r8 s7 => (r8 = 0 → wX2_size l1 s7 (fun r11 s10 => (r11 ≤ (30 : Int32) → (l2 = (0 : Int32) → wX4_firstOther tx l1 (0 : Int32) (0 : Int32) (s10.1 3 8) s10 (fun r15 s14 => Q r15 s14)) ∧ (l2 = (1 : Int32) → wX4_fitting tx l1 (11 : Int32) (0 : Int32) (s10.1 0 5) s10 (fun r18 s17 => Q r18 s17)) ∧ (l2 = (2 : Int32) → wX4_fittingRivers tx l1 s10 (fun r21 s20 => Q r21 s20)) ∧ (l2 = (3 : Int32) → wX4_highestFittingRiver tx l1 s10 (fun r24 s23 => Q r24 s23)) ∧ (¬ l2 = (0 : Int32) → ¬ l2 = (1 : Int32) → ¬ l2 = (2 : Int32) → ¬ l2 = (3 : Int32) → wX4_toldOfWork l2 (fun r25 => wX4_toldOfWork l2 (fun r26 => wX0_most r26 (fun r27 => wX4_fitting tx l1 r25 (krem l2 (10 : Int32)) (r27 + (1 : Int32)) s10 (fun r29 s28 => Q r29 s28)))))) ∧ (¬ r11 ≤ (30 : Int32) → Q (-2 : Int32) s10))) ∧ (¬ r8 = 0 → Q (-11 : Int32) s7))) ∧ (r5 = 0 → Q (-2 : Int32) s4))))
def wX4_film_38 (tx : List kTxt) (Q : Int32 → kS → Prop) (l1 : Int32) (l2 : Int32) (l3 : Int32) (σ : kS) : Prop :=
  ∀ P38 : kS → Int32 → Prop, (∀ (σ : kS) (l3 : Int32), ((l2 ≤ l3 → Q l2 σ) ∧ (¬ l2 ≤ l3 → vp_in l3 30 ∧ wX2_put l1 l3 (σ.1 1 l3.toNatClampNeg) σ (fun s9 => ∀ x10 : Int32, x10 = l3 + (1 : Int32) → P38 s9 x10))) → P38 σ l3) → P38 σ l3
def wX4_film (tx : List kTxt) (l1 : Int32) (l2 : Int32) (σ : kS) (Q : Int32 → kS → Prop) : Prop :=
  wX2_has l1 σ (fun r2 s1 => (r2 = 0 → Q (-2 : Int32) s1) ∧ (¬ r2 = 0 → wX4_areYears l2 (fun r4 => (r4 ≠ 0 → wX4_thinkYears tx l2 s1 (fun s6 => wX2_make l1 (1 : Int32) l2 s6 (fun s7 => wX4_film_38 tx Q l1 l2 (0 : Int32) s7))) ∧ (r4 = 0 → Q (-2 : Int32) s1))))
def wX4_dryDrawn_9 (tx : List kTxt) (Q : Int32 → kS → Prop) (l2 : Int32) (l3 : Int32) (l4 : Int32) (σ : kS) : Prop :=
  ∀ P9 : kS → Int32 → Int32 → Prop, (∀ (σ : kS) (l3 : Int32) (l4 : Int32), ((l2 ≤ l4 → wX0_dryCells 12 σ (fun r4 s3 => wJ6_bitCount r4 (fun r5 => Q r5 s3))) ∧ (¬ l2 ≤ l4 → ∀ x6 : Int32, x6 = (l3 * (1103515245 : Int32)) + (12345 : Int32) → wX0_pourOnAll 12 (krem (kushr x6 (9 : Int32)) (10 : Int32)) σ (fun s7 => wX4_ruleOf tx 12 s7 (fun r9 s8 => wX0_passYear 12 r9 s8 (fun s10 => ∀ x11 : Int32, x11 = l4 + (1 : Int32) → P9 s10 x6 x11))))) → P9 σ l3 l4) → P9 σ l3 l4
def wX4_dryDrawn (tx : List kTxt) (l1 : Int32) (l2 : Int32) (σ : kS) (Q : Int32 → kS → Prop) : Prop :=
  wX4_think σ (fun s1 => wX4_dryDrawn_9 tx Q l2 l1 (0 : Int32) s1)
def wX4_drawn (tx : List kTxt) (l1 : Int32) (l2 : Int32) (σ : kS) (Q : Int32 → kS → Prop) : Prop :=
  wX4_areYears l2 (fun r1 => (r1 ≠ 0 → wX4_dryDrawn tx l1 l2 σ (fun r4 s3 => Q r4 s3)) ∧ (r1 = 0 → Q (-2 : Int32) σ))
def wX4_commonDivisor_34 (Q : Int32 → Prop) (l2 : Int32) : Prop :=
  ((1 : Int32) ≤ l2 → Q l2) ∧ (¬ (1 : Int32) ≤ l2 → Q (1 : Int32))
def wX4_commonDivisor_7 (Q : Int32 → Prop) (l2 : Int32) (l3 : Int32) (l4 : Int32) : Prop :=
  ∀ P7 : Int32 → Int32 → Int32 → Prop, (∀ (l2 : Int32) (l3 : Int32) (l4 : Int32), (((64 : Int32) ≤ l4 → wX4_commonDivisor_34 Q l2) ∧ (¬ (64 : Int32) ≤ l4 → (l3 = 0 → wX4_commonDivisor_34 Q l2) ∧ (¬ l3 = 0 → (¬ l3 = 0) ∧ ∀ x3 : Int32, x3 = krem l2 l3 → ∀ x4 : Int32, x4 = l4 + (1 : Int32) → P7 l3 x3 x4))) → P7 l2 l3 l4) → P7 l2 l3 l4
def wX4_commonDivisor (l0 : Int32) (l1 : Int32) (Q : Int32 → Prop) : Prop :=
  wX4_commonDivisor_7 Q l0 l1 (0 : Int32)
def wX4_chance_66 (tx : List kTxt) (Q : Int64 → kS → Prop) (l1 : Int32) (l2 : Int32) (l4 : Int32) (l5 : Int32) (l6 : Int32) (l7 : Int32) (l8 : Int32) (σ : kS) : Prop :=
  ∀ P66 : kS → Int32 → Int32 → Prop, (∀ (σ : kS) (l7 : Int32) (l8 : Int32), ((l2 ≤ l8 → wX4_commonDivisor l7 l2 (fun r11 => (l4 ≠ 0 → (¬ r11 = 0) ∧ Q ((l2 / r11).toInt64) σ) ∧ (l4 = 0 → (¬ r11 = 0) ∧ Q ((l7 / r11).toInt64) σ))) ∧ (¬ l2 ≤ l8 → wX4_dryDrawn tx (l1 + l8) l5 σ (fun r14 s13 => (r14 < l6 → ∀ x16 : Int32, x16 = l8 + (1 : Int32) → P66 s13 l7 x16) ∧ (¬ r14 < l6 → ∀ x17 : Int32, x17 = l7 + (1 : Int32) → ∀ x18 : Int32, x18 = l8 + (1 : Int32) → P66 s13 x17 x18)))) → P66 σ l7 l8) → P66 σ l7 l8
def wX4_chance (tx : List kTxt) (l1 : Int32) (l2 : Int32) (l3 : Int32) (l4 : Int32) (σ : kS) (Q : Int64 → kS → Prop) : Prop :=
  (l2 < (1 : Int32) → Q (-4611686018427387904 : Int64) σ) ∧ (¬ l2 < (1 : Int32) → ((20 : Int32) < l2 → Q (-4611686018427387904 : Int64) σ) ∧ (¬ (20 : Int32) < l2 → (l4 < 0 → Q (-4611686018427387904 : Int64) σ) ∧ (¬ l4 < 0 → (l4 ≤ (1 : Int32) → ∀ x5 : Int32, x5 = l3 / (100 : Int32) → ∀ x6 : Int32, x6 = krem l3 (100 : Int32) → (l3 < 0 → Q (-4611686018427387904 : Int64) σ) ∧ (¬ l3 < 0 → ((30 : Int32) < x5 → Q (-4611686018427387904 : Int64) σ) ∧ (¬ (30 : Int32) < x5 → (x6 ≤ (12 : Int32) → wX4_chance_66 tx Q l1 l2 l4 x5 x6 (0 : Int32) (0 : Int32) σ) ∧ (¬ x6 ≤ (12 : Int32) → Q (-4611686018427387904 : Int64) σ)))) ∧ (¬ l4 ≤ (1 : Int32) → Q (-4611686018427387904 : Int64) σ))))
def wX4_image (σ : kS) (Q : Int32 → kS → Prop) : Prop :=
  wX0_take 21 3 σ (fun s1 => ∀ s2 : kS, s2 = kset s1 0 3 (1 : Int32) → Q (s2.1 3 11) s2)
def wX4_back (σ : kS) (Q : Int32 → kS → Prop) : Prop :=
  ((σ.1 0 3) ≠ 0 → wX0_take 3 21 σ (fun s2 => Q (s2.1 3 11) s2)) ∧ ((σ.1 0 3) = 0 → Q (-3 : Int32) σ)
def wX4_count (l1 : Int32) (σ : kS) (Q : Int32 → kS → Prop) : Prop :=
  (l1 = (0 : Int32) → Q (σ.1 3 11) σ) ∧ (l1 = (1 : Int32) → wX0_goingWorks 3 σ (fun r4 s3 => Q r4 s3)) ∧ (l1 = (2 : Int32) → wX0_dryCells 3 σ (fun r7 s6 => wJ6_bitCount r7 (fun r8 => Q r8 s6))) ∧ (l1 = (3 : Int32) → Q (σ.1 3 9) σ) ∧ (l1 = (4 : Int32) → Q (σ.1 3 10) σ) ∧ (l1 = (5 : Int32) → Q (σ.1 0 5) σ) ∧ (l1 = (6 : Int32) → wX1_size σ (fun r14 s13 => Q r14 s13)) ∧ (l1 = (7 : Int32) → Q (σ.1 3 12) σ) ∧ (¬ l1 = (0 : Int32) → ¬ l1 = (1 : Int32) → ¬ l1 = (2 : Int32) → ¬ l1 = (3 : Int32) → ¬ l1 = (4 : Int32) → ¬ l1 = (5 : Int32) → ¬ l1 = (6 : Int32) → ¬ l1 = (7 : Int32) → Q (-2 : Int32) σ)
def wX4_sheet (l1 : Int32) (l2 : Int32) (l3 : Int32) (σ : kS) (Q : Int32 → kS → Prop) : Prop :=
  wX2_has l1 σ (fun r2 s1 => (r2 = 0 → Q (-2 : Int32) s1) ∧ (¬ r2 = 0 → (l2 < (-1 : Int32) → Q (-2 : Int32) s1) ∧ (¬ l2 < (-1 : Int32) → (l2 < (3 : Int32) → (l2 ≠ (-1 : Int32) → (l3 ≤ (40 : Int32) → (0 ≤ l3 → wX2_make l1 l2 l3 s1 (fun s9 => Q (1 : Int32) s9)) ∧ (¬ 0 ≤ l3 → Q (-14 : Int32) s1)) ∧ (¬ l3 ≤ (40 : Int32) → Q (-2 : Int32) s1)) ∧ (l2 = (-1 : Int32) → wX2_drop l1 s1 (fun s10 => Q (1 : Int32) s10))) ∧ (¬ l2 < (3 : Int32) → Q (-2 : Int32) s1))))
def wX4_cell (l1 : Int32) (l2 : Int32) (l3 : Int32) (σ : kS) (Q : Int32 → kS → Prop) : Prop :=
  wX2_has l1 σ (fun r2 s1 => (r2 ≠ 0 → wX2_isMissing l1 s1 (fun r5 s4 => (r5 = 0 → wX2_hasItem l1 l2 s4 (fun r8 s7 => (r8 ≠ 0 → wX2_put l1 l2 l3 s7 (fun s10 => Q (1 : Int32) s10)) ∧ (r8 = 0 → Q (-12 : Int32) s7))) ∧ (¬ r5 = 0 → Q (-11 : Int32) s4))) ∧ (r2 = 0 → Q (-2 : Int32) s1))
def wX4_copy (l1 : Int32) (l2 : Int32) (l3 : Int32) (l4 : Int32) (l5 : Int32) (σ : kS) (Q : Int32 → kS → Prop) : Prop :=
  wX2_has l1 σ (fun r2 s1 => (r2 = 0 → Q (-2 : Int32) s1) ∧ (¬ r2 = 0 → wX2_has l3 s1 (fun r5 s4 => (r5 ≠ 0 → wX2_isMissing l1 s4 (fun r8 s7 => (r8 ≠ 0 → Q (-11 : Int32) s7) ∧ (r8 = 0 → wX2_isMissing l3 s7 (fun r11 s10 => (r11 = 0 → wX2_sort l1 s10 (fun r14 s13 => wX2_sort l3 s13 (fun r16 s15 => (r14 = r16 → wX2_hasItems l1 l2 l5 s15 (fun r19 s18 => (r19 = 0 → Q (-12 : Int32) s18) ∧ (¬ r19 = 0 → wX2_hasItems l3 l4 l5 s18 (fun r22 s21 => (r22 ≠ 0 → wX2_move l1 l2 l3 l4 l5 s21 (fun s24 => Q l5 s24)) ∧ (r22 = 0 → Q (-12 : Int32) s21))))) ∧ (¬ r14 = r16 → Q (-13 : Int32) s15)))) ∧ (¬ r11 = 0 → Q (-11 : Int32) s10))))) ∧ (r5 = 0 → Q (-2 : Int32) s4))))
def wX4_comes (l1 : Int32) (l2 : Int32) (σ : kS) (Q : Int32 → kS → Prop) : Prop :=
  wX2_at l1 l2 σ (fun r2 s1 => wX2_at l1 (l2 + (1 : Int32)) s1 (fun r4 s3 => wX2_at l1 (l2 + (2 : Int32)) s3 (fun r6 s5 => wX4_isWork r2 r4 r6 (fun r7 => (r7 = 0 → Q (0 : Int32) s5) ∧ (¬ r7 = 0 → ((s5.1 3 11) < (6 : Int32) → wX0_add 3 r2 r4 r6 s5 (fun s10 => Q (1 : Int32) s10)) ∧ (¬ (s5.1 3 11) < (6 : Int32) → Q (0 : Int32) s5))))))
def wX4_works_70 (Q : Int32 → kS → Prop) (l1 : Int32) (l3 : Int32) (l4 : Int32) (l5 : Int32) (l6 : Int32) (σ : kS) : Prop :=
  ∀ P70 : kS → Int32 → Int32 → Prop, (∀ (σ : kS) (l5 : Int32) (l6 : Int32), ((l4 ≤ l6 → Q l5 σ) ∧ (¬ l4 ≤ l6 → wX2_hasItems l1 l3 (((3 : Int32) * l6) + (3 : Int32)) σ (fun r16 s15 => (r16 ≠ 0 → wX4_comes l1 (l3 + ((3 : Int32) * l6)) s15 (fun r19 s18 => (r19 = 0 → ∀ x21 : Int32, x21 = l6 + (1 : Int32) → P70 s18 l5 x21) ∧ (¬ r19 = 0 → ∀ x22 : Int32, x22 = l5 + (1 : Int32) → ∀ x23 : Int32, x23 = l6 + (1 : Int32) → P70 s18 x22 x23))) ∧ (r16 = 0 → Q (-12 : Int32) s15)))) → P70 σ l5 l6) → P70 σ l5 l6
def wX4_works (l1 : Int32) (l2 : Int32) (l3 : Int32) (l4 : Int32) (σ : kS) (Q : Int32 → kS → Prop) : Prop :=
  wX2_has l1 σ (fun r2 s1 => (r2 = 0 → Q (-2 : Int32) s1) ∧ (¬ r2 = 0 → (l2 < 0 → Q (-2 : Int32) s1) ∧ (¬ l2 < 0 → ((3 : Int32) ≤ l2 → Q (-2 : Int32) s1) ∧ (¬ (3 : Int32) ≤ l2 → (l4 < 0 → Q (-2 : Int32) s1) ∧ (¬ l4 < 0 → (l4 ≤ (6 : Int32) → wX2_isMissing l1 s1 (fun r9 s8 => (r9 = 0 → wX2_sort l1 s8 (fun r12 s11 => (r12 = l2 → wX4_works_70 Q l1 l3 l4 (0 : Int32) (0 : Int32) s11) ∧ (¬ r12 = l2 → Q (-13 : Int32) s11))) ∧ (¬ r9 = 0 → Q (-11 : Int32) s8))) ∧ (¬ l4 ≤ (6 : Int32) → Q (-2 : Int32) s1))))))
def wX4_taken (l1 : Int32) (l2 : Int32) (σ : kS) (Q : Int32 → kS → Prop) : Prop :=
  (l2 < 0 → Q (-2 : Int32) σ) ∧ (¬ l2 < 0 → (l2 < (6 : Int32) → (l1 < 0 → Q (-11 : Int32) σ) ∧ (¬ l1 < 0 → (l1 < (σ.1 3 11) → wX0_get 3 (8 : Int32) l1 σ (fun r6 s5 => wX0_isUnder r6 l2 (fun r7 => (r7 = 0 → Q (-13 : Int32) s5) ∧ (¬ r7 = 0 → wX0_get 3 (5 : Int32) l1 s5 (fun r10 s9 => Q r10 s9))))) ∧ (¬ l1 < (σ.1 3 11) → Q (-11 : Int32) σ))) ∧ (¬ l2 < (6 : Int32) → Q (-2 : Int32) σ))
def wX1_readEither_7 (rec : Nat → Int32 → kS → (kS → Prop) → Prop) (Q : kS → Prop) (l1 : Int32) (l2 : Int32) (σ : kS) : Prop :=
  ∀ P7 : kS → Int32 → Prop, (∀ (σ : kS) (l2 : Int32), (((160 : Int32) ≤ l2 → Q σ) ∧ (¬ (160 : Int32) ≤ l2 → ((σ.1 30 3) ≠ (259 : Int32) → Q σ) ∧ ((σ.1 30 3) = (259 : Int32) → wX1_next σ (fun s4 => rec 1 l1 s4 (fun s5 => wX1_emit (-9 : Int32) s5 (fun s6 => ∀ x7 : Int32, x7 = l2 + (1 : Int32) → P7 s6 x7)))))) → P7 σ l2) → P7 σ l2
def wX1_readEither (rec : Nat → Int32 → kS → (kS → Prop) → Prop) (l1 : Int32) (σ : kS) (Q : kS → Prop) : Prop :=
  rec 1 l1 σ (fun s1 => wX1_readEither_7 rec Q l1 (0 : Int32) s1)
def wX1_readBoth_7 (rec : Nat → Int32 → kS → (kS → Prop) → Prop) (Q : kS → Prop) (l1 : Int32) (l2 : Int32) (σ : kS) : Prop :=
  ∀ P7 : kS → Int32 → Prop, (∀ (σ : kS) (l2 : Int32), (((160 : Int32) ≤ l2 → Q σ) ∧ (¬ (160 : Int32) ≤ l2 → ((σ.1 30 3) ≠ (260 : Int32) → Q σ) ∧ ((σ.1 30 3) = (260 : Int32) → wX1_next σ (fun s4 => rec 2 l1 s4 (fun s5 => wX1_emit (-10 : Int32) s5 (fun s6 => ∀ x7 : Int32, x7 = l2 + (1 : Int32) → P7 s6 x7)))))) → P7 σ l2) → P7 σ l2
def wX1_readBoth (rec : Nat → Int32 → kS → (kS → Prop) → Prop) (l1 : Int32) (σ : kS) (Q : kS → Prop) : Prop :=
  rec 2 l1 σ (fun s1 => wX1_readBoth_7 rec Q l1 (0 : Int32) s1)
def wX1_readNot_72 (rec : Nat → Int32 → kS → (kS → Prop) → Prop) (Q : kS → Prop) (l1 : Int32) (ks0 : Int32) (σ : kS) : Prop :=
  wX1_next σ (fun s10 => rec 3 l1 s10 (fun s11 => wX1_emit ks0 s11 (fun s12 => Q s12)))
def wX1_readNot_56 (rec : Nat → Int32 → kS → (kS → Prop) → Prop) (Q : kS → Prop) (l1 : Int32) (σ : kS) : Prop :=
  ((σ.1 30 3) ≠ (60 : Int32) → wX1_readNot_72 rec Q l1 (-12 : Int32) σ) ∧ ((σ.1 30 3) = (60 : Int32) → wX1_readNot_72 rec Q l1 (-11 : Int32) σ)
def wX1_readNot_33 (rec : Nat → Int32 → kS → (kS → Prop) → Prop) (Q : kS → Prop) (l1 : Int32) (σ : kS) : Prop :=
  rec 3 l1 σ (fun s6 => ((s6.1 30 3) = (60 : Int32) → wX1_readNot_56 rec Q l1 s6) ∧ (¬ (s6.1 30 3) = (60 : Int32) → ((s6.1 30 3) ≠ (61 : Int32) → Q s6) ∧ ((s6.1 30 3) = (61 : Int32) → wX1_readNot_56 rec Q l1 s6)))
def wX1_readNot (rec : Nat → Int32 → kS → (kS → Prop) → Prop) (l1 : Int32) (σ : kS) (Q : kS → Prop) : Prop :=
  ((σ.1 30 3) ≠ (261 : Int32) → wX1_readNot_33 rec Q l1 σ) ∧ ((σ.1 30 3) = (261 : Int32) → ((5 : Int32) ≤ l1 → wX1_readNot_33 rec Q l1 σ) ∧ (¬ (5 : Int32) ≤ l1 → wX1_next σ (fun s3 => rec 2 (l1 + (1 : Int32)) s3 (fun s4 => wX1_emit (-7 : Int32) s4 (fun s5 => Q s5)))))
def wX1_readSum_48 (rec : Nat → Int32 → kS → (kS → Prop) → Prop) (Q : kS → Prop) (P7 : kS → Int32 → Prop) (l1 : Int32) (l2 : Int32) (ks0 : Int32) (σ : kS) : Prop :=
  wX1_next σ (fun s6 => rec 4 l1 s6 (fun s7 => wX1_emit ks0 s7 (fun s8 => ∀ x9 : Int32, x9 = l2 + (1 : Int32) → P7 s8 x9)))
def wX1_readSum_32 (rec : Nat → Int32 → kS → (kS → Prop) → Prop) (Q : kS → Prop) (P7 : kS → Int32 → Prop) (l1 : Int32) (l2 : Int32) (σ : kS) : Prop :=
  ((σ.1 30 3) ≠ (43 : Int32) → wX1_readSum_48 rec Q P7 l1 l2 (-14 : Int32) σ) ∧ ((σ.1 30 3) = (43 : Int32) → wX1_readSum_48 rec Q P7 l1 l2 (-13 : Int32) σ)
def wX1_readSum_7 (rec : Nat → Int32 → kS → (kS → Prop) → Prop) (Q : kS → Prop) (l1 : Int32) (l2 : Int32) (σ : kS) : Prop :=
  ∀ P7 : kS → Int32 → Prop, (∀ (σ : kS) (l2 : Int32), (((160 : Int32) ≤ l2 → Q σ) ∧ (¬ (160 : Int32) ≤ l2 → ((σ.1 30 3) = (43 : Int32) → wX1_readSum_32 rec Q P7 l1 l2 σ) ∧ (¬ (σ.1 30 3) = (43 : Int32) → ((σ.1 30 3) ≠ (45 : Int32) → Q σ) ∧ ((σ.1 30 3) = (45 : Int32) → wX1_readSum_32 rec Q P7 l1 l2 σ)))) → P7 σ l2) → P7 σ l2
def wX1_readSum (rec : Nat → Int32 → kS → (kS → Prop) → Prop) (l1 : Int32) (σ : kS) (Q : kS → Prop) : Prop :=
  rec 4 l1 σ (fun s1 => wX1_readSum_7 rec Q l1 (0 : Int32) s1)
def wX1_readTerm_7 (rec : Nat → Int32 → kS → (kS → Prop) → Prop) (Q : kS → Prop) (l1 : Int32) (l2 : Int32) (σ : kS) : Prop :=
  ∀ P7 : kS → Int32 → Prop, (∀ (σ : kS) (l2 : Int32), (((160 : Int32) ≤ l2 → Q σ) ∧ (¬ (160 : Int32) ≤ l2 → ((σ.1 30 3) ≠ (42 : Int32) → Q σ) ∧ ((σ.1 30 3) = (42 : Int32) → wX1_next σ (fun s4 => rec 5 l1 s4 (fun s5 => wX1_emit (-15 : Int32) s5 (fun s6 => ∀ x7 : Int32, x7 = l2 + (1 : Int32) → P7 s6 x7)))))) → P7 σ l2) → P7 σ l2
def wX1_readTerm (rec : Nat → Int32 → kS → (kS → Prop) → Prop) (l1 : Int32) (σ : kS) (Q : kS → Prop) : Prop :=
  rec 5 l1 σ (fun s1 => wX1_readTerm_7 rec Q l1 (0 : Int32) s1)
def wX1_readOne_122 (rec : Nat → Int32 → kS → (kS → Prop) → Prop) (Q : kS → Prop) (σ : kS) : Prop :=
  wX1_fail σ (fun s17 => Q s17)
def wX1_readOne_88 (rec : Nat → Int32 → kS → (kS → Prop) → Prop) (Q : kS → Prop) (l1 : Int32) (σ : kS) : Prop :=
  ((σ.1 30 3) ≠ (40 : Int32) → wX1_readOne_122 rec Q σ) ∧ ((σ.1 30 3) = (40 : Int32) → ((5 : Int32) ≤ l1 → wX1_readOne_122 rec Q σ) ∧ (¬ (5 : Int32) ≤ l1 → wX1_next σ (fun s14 => rec 0 (l1 + (1 : Int32)) s14 (fun s15 => wX1_expect (41 : Int32) s15 (fun s16 => Q s16)))))
def wX1_readOne (rec : Nat → Int32 → kS → (kS → Prop) → Prop) (l1 : Int32) (σ : kS) (Q : kS → Prop) : Prop :=
  ((σ.1 30 3) ≠ (2 : Int32) → ((σ.1 30 3) < (262 : Int32) → ((σ.1 30 3) ≠ (45 : Int32) → wX1_readOne_88 rec Q l1 σ) ∧ ((σ.1 30 3) = (45 : Int32) → ((5 : Int32) ≤ l1 → wX1_readOne_88 rec Q l1 σ) ∧ (¬ (5 : Int32) ≤ l1 → wX1_next σ (fun s5 => rec 5 (l1 + (1 : Int32)) s5 (fun s6 => wX1_emit (-8 : Int32) s6 (fun s7 => Q s7)))))) ∧ (¬ (σ.1 30 3) < (262 : Int32) → wX1_emit ((-1 : Int32) - ((σ.1 30 3) - (262 : Int32))) σ (fun s8 => wX1_next s8 (fun s9 => Q s9)))) ∧ ((σ.1 30 3) = (2 : Int32) → wX1_emit (σ.1 30 5) σ (fun s10 => wX1_next s10 (fun s11 => Q s11)))
def wRd : Nat → Nat → Int32 → kS → (kS → Prop) → Prop
  | 0, _, _, _, _ => False
  | d + 1, 0, o, σ, Q => wX1_readEither (wRd d) o σ Q
  | d + 1, 1, o, σ, Q => wX1_readBoth (wRd d) o σ Q
  | d + 1, 2, o, σ, Q => wX1_readNot (wRd d) o σ Q
  | d + 1, 3, o, σ, Q => wX1_readSum (wRd d) o σ Q
  | d + 1, 4, o, σ, Q => wX1_readTerm (wRd d) o σ Q
  | d + 1, _, o, σ, Q => wX1_readOne (wRd d) o σ Q
