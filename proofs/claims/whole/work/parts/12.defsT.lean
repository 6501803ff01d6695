/-! texts are made: readPart, read, text() -/
abbrev kPt3 : Type := (Nat × (Nat → Int32)) × (Nat × (Nat → Int32)) × (Nat × (Nat → Int32))
def wX1_readPart (l1 : Int32) (σ : kS) (Q : Nat → (Nat → Int32) → kS → Prop) : Prop :=
  ∀ s1 : kS, s1 = kset σ 30 8 (0 : Int32) → wX1_expect ((256 : Int32) + l1) s1 (fun s2 => wRd 40 0 (0 : Int32) s2 (fun s3 => wX1_expect (59 : Int32) s3 (fun s4 => (¬ s4.1 30 8 < 0) ∧ (s4.1 30 8).toNatClampNeg ≤ 160 ∧ Q (s4.1 30 8).toNatClampNeg (va_cpy (s4.1 32) (fun _ => 0) (0 : Int32).toNatClampNeg (0 : Int32).toNatClampNeg (s4.1 30 8).toNatClampNeg) s4)))
def wX1_read (σ : kS) (Q : Option kPt3 → kS → Prop) : Prop :=
  ∀ s1 : kS, s1 = kset σ 30 2 (0 : Int32) → ∀ s2 : kS, s2 = kset s1 30 6 (-1 : Int32) → wX1_next s2 (fun s3 => wX1_readPart (0 : Int32) s3 (fun n0 f0 s4 => wX1_readPart (1 : Int32) s4 (fun n1 f1 s5 => wX1_readPart (2 : Int32) s5 (fun n2 f2 s6 => wX1_expect (0 : Int32) s6 (fun s7 => ∀ s8 : kS, s8 = kset s7 30 1 (0 : Int32) → (s8.1 30 6 ≠ (-1 : Int32) → Q none s8) ∧ (s8.1 30 6 = (-1 : Int32) → Q (some ((n0, f0), (n1, f1), (n2, f2))) s8))))))
def wX4_text (nt : Nat) (σ : kS) (Q : Int32 → Option kPt3 → kS → Prop) : Prop :=
  (σ.1 0 5 < (6 : Int32) → wX1_read σ (fun o s1 => (o = none → wX1_fault s1 (fun r s2 => Q ((-100 : Int32) - r) none s2)) ∧ ∀ c : kPt3, o = some c → vp_in (s1.1 0 5) 6 ∧ (s1.1 0 5).toNatClampNeg = nt ∧ ∀ s2 : kS, s2 = kset s1 0 5 ((s1.1 0 5) + (1 : Int32)) → Q ((s2.1 0 5) - (1 : Int32)) (some c) s2)) ∧ (¬ σ.1 0 5 < (6 : Int32) → Q (-4 : Int32) none σ)
