def wX5_in (l0 : Int64) (l2 : Int64) (l4 : Int64) (Q : Int32 → Prop) : Prop :=
  ((lg_cmp l0 l2) < 0 → Q (0 : Int32)) ∧ (¬ (lg_cmp l0 l2) < 0 → (0 < (lg_cmp l0 l4) → Q (0 : Int32)) ∧ (¬ 0 < (lg_cmp l0 l4) → Q (1 : Int32)))
def wX5_within (l0 : Int32) (l1 : Int32) (l2 : Int32) (Q : Int32 → Prop) : Prop :=
  (l1 ≤ l0 → (l0 ≤ l2 → Q l0) ∧ (¬ l0 ≤ l2 → Q l2)) ∧ (¬ l1 ≤ l0 → Q l1)
def wX5_spell (l1 : Int32) (l2 : Int32) (l3 : Int32) (l4 : Int32) (l5 : Int32) (l6 : Int32) (l7 : Int32) (l8 : Int32) (l9 : Int32) (σ : kS) (Q : kS → Prop) : Prop :=
  vp_in l1 960 ∧ ∀ s1 : kS, s1 = kset σ 1 l1.toNatClampNeg l2 → vp_in (l1 + (1 : Int32)) 960 ∧ ∀ s2 : kS, s2 = kset s1 1 (l1 + (1 : Int32)).toNatClampNeg l3 → vp_in (l1 + (2 : Int32)) 960 ∧ ∀ s3 : kS, s3 = kset s2 1 (l1 + (2 : Int32)).toNatClampNeg l4 → vp_in (l1 + (3 : Int32)) 960 ∧ ∀ s4 : kS, s4 = kset s3 1 (l1 + (3 : Int32)).toNatClampNeg l5 → vp_in (l1 + (4 : Int32)) 960 ∧ ∀ s5 : kS, s5 = kset s4 1 (l1 + (4 : Int32)).toNatClampNeg l6 → vp_in (l1 + (5 : Int32)) 960 ∧ ∀ s6 : kS, s6 = kset s5 1 (l1 + (5 : Int32)).toNatClampNeg l7 → vp_in (l1 + (6 : Int32)) 960 ∧ ∀ s7 : kS, s7 = kset s6 1 (l1 + (6 : Int32)).toNatClampNeg l8 → vp_in (l1 + (7 : Int32)) 960 ∧ ∀ s8 : kS, s8 = kset s7 1 (l1 + (7 : Int32)).toNatClampNeg l9 → Q s8
def wX5_isWork (l1 : Int32) (σ : kS) (Q : Int32 → kS → Prop) : Prop :=
  wX5_in l1.toInt64 (0 : Int64) (((σ.1 0 13) - (1 : Int32)).toInt64) (fun r1 => (r1 = 0 ∨ r1 = 1) ∧ Q r1 σ)
def wX5_isCell (l0 : Int32) (Q : Int32 → Prop) : Prop :=
  wX5_in l0.toInt64 (0 : Int64) (11 : Int64) (fun r1 => (r1 = 0 ∨ r1 = 1) ∧ Q r1)
def wX5_isOf (l1 : Int32) (l2 : Int32) (σ : kS) (Q : Int32 → kS → Prop) : Prop :=
  (l1 < (2 : Int32) → Q (1 : Int32) σ) ∧ (¬ l1 < (2 : Int32) → ((5 : Int32) ≤ l1 → wX5_isWork l2 σ (fun r4 s3 => (r4 = 0 → Q (0 : Int32) s3) ∧ (¬ r4 = 0 → Q (1 : Int32) s3))) ∧ (¬ (5 : Int32) ≤ l1 → wX5_isCell l2 (fun r6 => (r6 = 0 → Q (0 : Int32) σ) ∧ (¬ r6 = 0 → Q (1 : Int32) σ))))
def wX5_mostOf (l0 : Int32) (Q : Int32 → Prop) : Prop :=
  ((5 : Int32) ≤ l0 → (l0 ≠ (5 : Int32) → (l0 ≠ (6 : Int32) → Q (1 : Int32)) ∧ (l0 = (6 : Int32) → Q (11 : Int32))) ∧ (l0 = (5 : Int32) → Q (9 : Int32))) ∧ (¬ (5 : Int32) ≤ l0 → (l0 ≠ (1 : Int32) → (l0 ≠ (4 : Int32) → Q (99 : Int32)) ∧ (l0 = (4 : Int32) → Q (999 : Int32))) ∧ (l0 = (1 : Int32) → Q (999 : Int32)))
def wX5_drawsOf_108 (Q : Int32 → kS → Prop) (l5 : Int32) (ks0 : Int32) (σ : kS) : Prop :=
  (l5 ≤ ks0 → Q l5 σ) ∧ (¬ l5 ≤ ks0 → Q ks0 σ)
def wX5_drawsOf_106 (Q : Int32 → kS → Prop) (l4 : Int32) (l5 : Int32) (σ : kS) : Prop :=
  wX5_drawsOf_108 Q l5 l4 σ
def wX5_drawsOf_51 (Q : Int32 → kS → Prop) (l2 : Int32) (l3 : Int32) (l4 : Int32) (l5 : Int32) (σ : kS) : Prop :=
  (l3 ≠ (2 : Int32) → (l3 ≠ (4 : Int32) → (l3 = 0 → wX5_drawsOf_106 Q l4 l5 σ) ∧ (¬ l3 = 0 → vp_in ((3 : Int32) * l2) 36 ∧ ((σ.1 4 ((3 : Int32) * l2).toNatClampNeg) ≤ (σ.1 0 7) → wX5_drawsOf_106 Q l4 l5 σ) ∧ (¬ (σ.1 4 ((3 : Int32) * l2).toNatClampNeg) ≤ (σ.1 0 7) → wX5_drawsOf_108 Q l5 (l4 + (l5 / (2 : Int32))) σ))) ∧ (l3 = (4 : Int32) → wX5_drawsOf_108 Q l5 ((2 : Int32) * (l4 + (5 : Int32))) σ)) ∧ (l3 = (2 : Int32) → wX5_drawsOf_108 Q l5 (l4 + (5 : Int32)) σ)
def wX5_drawsOf (l1 : Int32) (l2 : Int32) (σ : kS) (Q : Int32 → kS → Prop) : Prop :=
  vp_in l1 6 ∧ ∀ x1 : Int32, x1 = σ.1 5 l1.toNatClampNeg → vp_in ((3 : Int32) * l1) 18 ∧ ∀ x2 : Int32, x2 = σ.1 6 ((3 : Int32) * l1).toNatClampNeg → vp_in (((3 : Int32) * l2) + (2 : Int32)) 36 ∧ ∀ x3 : Int32, x3 = σ.1 4 (((3 : Int32) * l2) + (2 : Int32)).toNatClampNeg → (x1 = (5 : Int32) → Q (0 : Int32) σ) ∧ (¬ x1 = (5 : Int32) → (x1 ≠ (3 : Int32) → wX5_drawsOf_51 Q l2 x1 x2 x3 σ) ∧ (x1 = (3 : Int32) → ((krem (σ.1 0 8) (3 : Int32)) ≠ (2 : Int32) → wX5_drawsOf_51 Q l2 x1 x2 x3 σ) ∧ ((krem (σ.1 0 8) (3 : Int32)) = (2 : Int32) → Q (0 : Int32) σ)))
def wX5_byteAt (l1 : Int32) (σ : kS) (Q : Int32 → kS → Prop) : Prop :=
  ((σ.1 0 21) ≤ l1 → Q (-1 : Int32) σ) ∧ (¬ (σ.1 0 21) ≤ l1 → vp_in ((σ.1 0 20) + l1) 960 ∧ Q (σ.1 1 ((σ.1 0 20) + l1).toNatClampNeg) σ)
def wX5_next_26 (Q : kS → Prop) (P0 : kS → Prop) (σ : kS) : Prop :=
  ∀ s29 : kS, s29 = kset σ 0 22 ((σ.1 0 22) + (1 : Int32)) → P0 s29
def wX5_next_100 (Q : kS → Prop) (σ : kS) : Prop :=
  ∀ P100 : kS → Prop, (∀ (σ : kS), (wX5_byteAt (σ.1 0 22) σ (fun r42 s41 => wX5_in r42.toInt64 (97 : Int64) (122 : Int64) (fun r43 => (r43 = 0 → Q s41) ∧ (¬ r43 = 0 → ∀ s45 : kS, s45 = kset s41 0 22 ((s41.1 0 22) + (1 : Int32)) → P100 s45)))) → P100 σ) → P100 σ
def wX5_next_216 (Q : kS → Prop) (P160 : kS → Int32 → Prop) (l2 : Int32) (ks0 : Int64) (σ : kS) : Prop :=
  ∀ s47 : kS, s47 = ksetL σ ks0 → ∀ x48 : Int32, x48 = l2 + (1 : Int32) → ∀ s49 : kS, s49 = kset s47 0 22 ((s47.1 0 22) + (1 : Int32)) → P160 s49 x48
def wX5_next_246 (Q : kS → Prop) (ks0 : Int32) (σ : kS) : Prop :=
  ∀ s46 : kS, s46 = kset σ 0 23 ks0 → Q s46
def wX5_next_160 (Q : kS → Prop) (l2 : Int32) (σ : kS) : Prop :=
  ∀ P160 : kS → Int32 → Prop, (∀ (σ : kS) (l2 : Int32), (wX5_byteAt (σ.1 0 22) σ (fun r34 s33 => wX5_in r34.toInt64 (48 : Int64) (57 : Int64) (fun r35 => (r35 = 0 → (l2 ≤ (4 : Int32) → wX5_next_246 Q (2 : Int32) s33) ∧ (¬ l2 ≤ (4 : Int32) → wX5_next_246 Q (4 : Int32) s33)) ∧ (¬ r35 = 0 → ((4 : Int32) ≤ l2 → wX5_next_216 Q P160 l2 s33.2 s33) ∧ (¬ (4 : Int32) ≤ l2 → wX5_byteAt (s33.1 0 22) s33 (fun r40 s39 => wX5_next_216 Q P160 l2 ((((10 : Int64) * s33.2) + r40.toInt64) - (48 : Int64)) s39)))))) → P160 σ l2) → P160 σ l2
def wX5_next_300 (Q : kS → Prop) (l1 : Int32) (σ : kS) : Prop :=
  ∀ s30 : kS, s30 = kset σ 0 23 (3 : Int32) → ∀ s31 : kS, s31 = ksetL s30 l1.toInt64 → ∀ s32 : kS, s32 = kset s31 0 22 ((s31.1 0 22) + (1 : Int32)) → Q s32
def wX5_next_0 (Q : kS → Prop) (σ : kS) : Prop :=
  ∀ P0 : kS → Prop, (∀ (σ : kS), (wX5_byteAt (σ.1 0 22) σ (fun r2 s1 => (r2 = (32 : Int32) → wX5_next_26 Q P0 s1) ∧ (¬ r2 = (32 : Int32) → wX5_byteAt (s1.1 0 22) s1 (fun r5 s4 => (r5 ≠ (10 : Int32) → ∀ s7 : kS, s7 = kset s4 0 24 (s4.1 0 22) → wX5_byteAt (s7.1 0 22) s7 (fun r9 s8 => ∀ s10 : kS, s10 = kset s8 0 23 (4 : Int32) → (0 ≤ r9 → wX5_in r9.toInt64 (97 : Int64) (122 : Int64) (fun r12 => (r12 = 0 → wX5_in r9.toInt64 (48 : Int64) (57 : Int64) (fun r14 => (r14 = 0 → (r9 = (40 : Int32) → wX5_next_300 Q r9 s10) ∧ (¬ r9 = (40 : Int32) → (r9 = (41 : Int32) → wX5_next_300 Q r9 s10) ∧ (¬ r9 = (41 : Int32) → (r9 = (59 : Int32) → wX5_next_300 Q r9 s10) ∧ (¬ r9 = (59 : Int32) → (r9 = (43 : Int32) → wX5_next_300 Q r9 s10) ∧ (¬ r9 = (43 : Int32) → (r9 = (45 : Int32) → wX5_next_300 Q r9 s10) ∧ (¬ r9 = (45 : Int32) → (r9 = (42 : Int32) → wX5_next_300 Q r9 s10) ∧ (¬ r9 = (42 : Int32) → (r9 = (60 : Int32) → wX5_next_300 Q r9 s10) ∧ (¬ r9 = (60 : Int32) → (r9 ≠ (61 : Int32) → Q s10) ∧ (r9 = (61 : Int32) → wX5_next_300 Q r9 s10))))))))) ∧ (¬ r14 = 0 → ∀ s24 : kS, s24 = kset s10 0 23 (2 : Int32) → ∀ s25 : kS, s25 = ksetL s24 (0 : Int64) → wX5_next_160 Q (0 : Int32) s25))) ∧ (¬ r12 = 0 → ∀ s26 : kS, s26 = kset s10 0 23 (1 : Int32) → wX5_next_100 Q s26))) ∧ (¬ 0 ≤ r9 → ∀ s27 : kS, s27 = kset s10 0 23 (0 : Int32) → ∀ s28 : kS, s28 = kset s27 0 24 (s27.1 0 21) → Q s28))) ∧ (r5 = (10 : Int32) → wX5_next_26 Q P0 s4))))) → P0 σ) → P0 σ
def wX5_next (σ : kS) (Q : kS → Prop) : Prop :=
  wX5_next_0 Q σ
def wX5_isLetter (l1 : Int32) (l2 : Int32) (σ : kS) (Q : Int32 → kS → Prop) : Prop :=
  ((σ.1 0 22) ≤ ((σ.1 0 24) + l1) → (l2 ≠ 0 → Q (0 : Int32) σ) ∧ (l2 = 0 → Q (1 : Int32) σ)) ∧ (¬ (σ.1 0 22) ≤ ((σ.1 0 24) + l1) → wX5_byteAt ((σ.1 0 24) + l1) σ (fun r4 s3 => (r4 ≠ l2 → Q (0 : Int32) s3) ∧ (r4 = l2 → Q (1 : Int32) s3)))
def wX5_isWord (l1 : Int32) (l2 : Int32) (l3 : Int32) (l4 : Int32) (l5 : Int32) (l6 : Int32) (l7 : Int32) (l8 : Int32) (σ : kS) (Q : Int32 → kS → Prop) : Prop :=
  ((σ.1 0 27) ≠ 0 → Q (0 : Int32) σ) ∧ ((σ.1 0 27) = 0 → ((σ.1 0 23) ≠ (1 : Int32) → Q (0 : Int32) σ) ∧ ((σ.1 0 23) = (1 : Int32) → (((σ.1 0 24) + (8 : Int32)) < (σ.1 0 22) → Q (0 : Int32) σ) ∧ (¬ ((σ.1 0 24) + (8 : Int32)) < (σ.1 0 22) → wX5_isLetter (0 : Int32) l1 σ (fun r5 s4 => (r5 = 0 → Q (0 : Int32) s4) ∧ (¬ r5 = 0 → wX5_isLetter (1 : Int32) l2 s4 (fun r8 s7 => (r8 = 0 → Q (0 : Int32) s7) ∧ (¬ r8 = 0 → wX5_isLetter (2 : Int32) l3 s7 (fun r11 s10 => (r11 = 0 → Q (0 : Int32) s10) ∧ (¬ r11 = 0 → wX5_isLetter (3 : Int32) l4 s10 (fun r14 s13 => (r14 = 0 → Q (0 : Int32) s13) ∧ (¬ r14 = 0 → wX5_isLetter (4 : Int32) l5 s13 (fun r17 s16 => (r17 = 0 → Q (0 : Int32) s16) ∧ (¬ r17 = 0 → wX5_isLetter (5 : Int32) l6 s16 (fun r20 s19 => (r20 = 0 → Q (0 : Int32) s19) ∧ (¬ r20 = 0 → wX5_isLetter (6 : Int32) l7 s19 (fun r23 s22 => (r23 = 0 → Q (0 : Int32) s22) ∧ (¬ r23 = 0 → wX5_isLetter (7 : Int32) l8 s22 (fun r26 s25 => (r26 = 0 → Q (0 : Int32) s25) ∧ (¬ r26 = 0 → Q (1 : Int32) s25)))))))))))))))))))
def wX5_fail (σ : kS) (Q : kS → Prop) : Prop :=
  ((σ.1 0 27) ≠ 0 → Q σ) ∧ ((σ.1 0 27) = 0 → ∀ s2 : kS, s2 = kset σ 0 27 (1 : Int32) → ∀ s3 : kS, s3 = kset s2 0 28 (s2.1 0 24) → Q s3)
def wX5_opens (σ : kS) (Q : Int32 → kS → Prop) : Prop :=
  ((σ.1 0 26) ≠ (5 : Int32) → ∀ s2 : kS, s2 = kset σ 0 26 ((σ.1 0 26) + (1 : Int32)) → wX5_next s2 (fun s3 => Q (1 : Int32) s3)) ∧ ((σ.1 0 26) = (5 : Int32) → wX5_fail σ (fun s4 => Q (0 : Int32) s4))
def wX5_isSign (l1 : Int32) (σ : kS) (Q : Int32 → kS → Prop) : Prop :=
  ((σ.1 0 27) ≠ 0 → Q (0 : Int32) σ) ∧ ((σ.1 0 27) = 0 → ((σ.1 0 23) ≠ (3 : Int32) → Q (0 : Int32) σ) ∧ ((σ.1 0 23) = (3 : Int32) → ((lg_cmp σ.2 l1.toInt64) ≠ 0 → Q (0 : Int32) σ) ∧ ((lg_cmp σ.2 l1.toInt64) = 0 → Q (1 : Int32) σ)))
def wX5_name (σ : kS) (Q : Int32 → kS → Prop) : Prop :=
  wX5_isWord (104 : Int32) (101 : Int32) (105 : Int32) (103 : Int32) (104 : Int32) (116 : Int32) (0 : Int32) (0 : Int32) σ (fun r2 s1 => (r2 = 0 → wX5_isWord (112 : Int32) (101 : Int32) (97 : Int32) (116 : Int32) (0 : Int32) (0 : Int32) (0 : Int32) (0 : Int32) s1 (fun r5 s4 => (r5 = 0 → wX5_isWord (121 : Int32) (101 : Int32) (97 : Int32) (114 : Int32) (0 : Int32) (0 : Int32) (0 : Int32) (0 : Int32) s4 (fun r8 s7 => (r8 = 0 → wX5_isWord (110 : Int32) (117 : Int32) (109 : Int32) (98 : Int32) (101 : Int32) (114 : Int32) (0 : Int32) (0 : Int32) s7 (fun r11 s10 => (r11 = 0 → wX5_isWord (119 : Int32) (97 : Int32) (116 : Int32) (101 : Int32) (114 : Int32) (0 : Int32) (0 : Int32) (0 : Int32) s10 (fun r14 s13 => (r14 = 0 → wX5_isWord (99 : Int32) (101 : Int32) (108 : Int32) (108 : Int32) (0 : Int32) (0 : Int32) (0 : Int32) (0 : Int32) s13 (fun r17 s16 => (r17 = 0 → wX5_fail s16 (fun s19 => Q (0 : Int32) s19)) ∧ (¬ r17 = 0 → Q (s16.1 0 19) s16))) ∧ (¬ r14 = 0 → Q (s13.1 0 18) s13))) ∧ (¬ r11 = 0 → Q (s10.1 0 17) s10))) ∧ (¬ r8 = 0 → Q (s7.1 0 16) s7))) ∧ (¬ r5 = 0 → Q (s4.1 0 15) s4))) ∧ (¬ r2 = 0 → Q (s1.1 0 14) s1))
def wX5_atom5_98 (Q : Int32 → kS → Prop) (l1 : Int32) (σ : kS) : Prop :=
  wX5_fail σ (fun s21 => Q l1 s21)
def wX5_atom5_64 (Q : Int32 → kS → Prop) (l1 : Int32) (σ : kS) : Prop :=
  ((σ.1 0 27) ≠ 0 → wX5_atom5_98 Q l1 σ) ∧ ((σ.1 0 27) = 0 → ((σ.1 0 23) ≠ (1 : Int32) → wX5_atom5_98 Q l1 σ) ∧ ((σ.1 0 23) = (1 : Int32) → wX5_name σ (fun r18 s17 => ((s17.1 0 27) ≠ 0 → Q r18 s17) ∧ ((s17.1 0 27) = 0 → wX5_next s17 (fun s20 => Q r18 s20)))))
def wX5_atom5 (σ : kS) (Q : Int32 → kS → Prop) : Prop :=
  wX5_isSign (45 : Int32) σ (fun r2 s1 => (r2 = 0 → wX5_isSign (40 : Int32) s1 (fun r5 s4 => (r5 = 0 → ((s4.1 0 27) ≠ 0 → wX5_atom5_64 Q (0 : Int32) s4) ∧ ((s4.1 0 27) = 0 → ((s4.1 0 23) ≠ (2 : Int32) → wX5_atom5_64 Q (0 : Int32) s4) ∧ ((s4.1 0 23) = (2 : Int32) → ∀ x9 : Int32, x9 = s4.2.toInt32 → wX5_next s4 (fun s10 => Q x9 s10)))) ∧ (¬ r5 = 0 → wX5_opens s4 (fun r12 s11 => Q (0 : Int32) s11)))) ∧ (¬ r2 = 0 → wX5_opens s1 (fun r14 s13 => Q (0 : Int32) s13)))
def wX5_term5_5 (Q : Int32 → kS → Prop) (l1 : Int32) (σ : kS) : Prop :=
  ∀ P5 : kS → Int32 → Prop, (∀ (σ : kS) (l1 : Int32), (wX5_isSign (42 : Int32) σ (fun r4 s3 => (r4 = 0 → Q l1 s3) ∧ (¬ r4 = 0 → wX5_next s3 (fun s6 => wX5_atom5 s6 (fun r8 s7 => ∀ x9 : Int32, x9 = l1 * r8 → P5 s7 x9))))) → P5 σ l1) → P5 σ l1
def wX5_term5 (σ : kS) (Q : Int32 → kS → Prop) : Prop :=
  wX5_atom5 σ (fun r2 s1 => wX5_term5_5 Q r2 s1)
def wX5_added5_39 (Q : Int32 → kS → Prop) (P5 : kS → Int32 → Prop) (l1 : Int32) (ks0 : Int32) (σ : kS) : Prop :=
  wX5_next σ (fun s10 => wX5_term5 s10 (fun r12 s11 => (ks0 = 0 → ∀ x14 : Int32, x14 = l1 - r12 → P5 s11 x14) ∧ (¬ ks0 = 0 → ∀ x15 : Int32, x15 = l1 + r12 → P5 s11 x15)))
def wX5_added5_23 (Q : Int32 → kS → Prop) (P5 : kS → Int32 → Prop) (l1 : Int32) (σ : kS) : Prop :=
  ((lg_cmp σ.2 (43 : Int64)) ≠ 0 → wX5_added5_39 Q P5 l1 (0 : Int32) σ) ∧ ((lg_cmp σ.2 (43 : Int64)) = 0 → wX5_added5_39 Q P5 l1 (1 : Int32) σ)
def wX5_added5_5 (Q : Int32 → kS → Prop) (l1 : Int32) (σ : kS) : Prop :=
  ∀ P5 : kS → Int32 → Prop, (∀ (σ : kS) (l1 : Int32), (wX5_isSign (43 : Int32) σ (fun r4 s3 => (r4 ≠ 0 → wX5_added5_23 Q P5 l1 s3) ∧ (r4 = 0 → wX5_isSign (45 : Int32) s3 (fun r7 s6 => (r7 = 0 → Q l1 s6) ∧ (¬ r7 = 0 → wX5_added5_23 Q P5 l1 s6))))) → P5 σ l1) → P5 σ l1
def wX5_added5 (σ : kS) (Q : Int32 → kS → Prop) : Prop :=
  wX5_term5 σ (fun r2 s1 => wX5_added5_5 Q r2 s1)
def wX5_not5_66 (Q : Int32 → kS → Prop) (l1 : Int32) (ks0 : Int32) (σ : kS) : Prop :=
  wX5_next σ (fun s15 => wX5_added5 s15 (fun r17 s16 => (ks0 = 0 → (l1 ≠ r17 → Q (0 : Int32) s16) ∧ (l1 = r17 → Q (1 : Int32) s16)) ∧ (¬ ks0 = 0 → (r17 ≤ l1 → Q (0 : Int32) s16) ∧ (¬ r17 ≤ l1 → Q (1 : Int32) s16))))
def wX5_not5_50 (Q : Int32 → kS → Prop) (l1 : Int32) (σ : kS) : Prop :=
  ((lg_cmp σ.2 (60 : Int64)) ≠ 0 → wX5_not5_66 Q l1 (0 : Int32) σ) ∧ ((lg_cmp σ.2 (60 : Int64)) = 0 → wX5_not5_66 Q l1 (1 : Int32) σ)
def wX5_not5 (σ : kS) (Q : Int32 → kS → Prop) : Prop :=
  wX5_isWord (110 : Int32) (111 : Int32) (116 : Int32) (0 : Int32) (0 : Int32) (0 : Int32) (0 : Int32) (0 : Int32) σ (fun r2 s1 => (r2 = 0 → wX5_added5 s1 (fun r5 s4 => wX5_isSign (60 : Int32) s4 (fun r7 s6 => (r7 ≠ 0 → wX5_not5_50 Q r5 s6) ∧ (r7 = 0 → wX5_isSign (61 : Int32) s6 (fun r10 s9 => (r10 ≠ 0 → wX5_not5_50 Q r5 s9) ∧ (r10 = 0 → Q r5 s9)))))) ∧ (¬ r2 = 0 → wX5_opens s1 (fun r13 s12 => Q (0 : Int32) s12)))
def wX5_both5_5 (Q : Int32 → kS → Prop) (l1 : Int32) (σ : kS) : Prop :=
  ∀ P5 : kS → Int32 → Prop, (∀ (σ : kS) (l1 : Int32), (wX5_isWord (97 : Int32) (110 : Int32) (100 : Int32) (0 : Int32) (0 : Int32) (0 : Int32) (0 : Int32) (0 : Int32) σ (fun r4 s3 => (r4 = 0 → Q l1 s3) ∧ (¬ r4 = 0 → wX5_next s3 (fun s6 => wX5_not5 s6 (fun r8 s7 => (l1 = 0 → P5 s7 (0 : Int32)) ∧ (¬ l1 = 0 → (r8 = 0 → P5 s7 (0 : Int32)) ∧ (¬ r8 = 0 → P5 s7 (1 : Int32)))))))) → P5 σ l1) → P5 σ l1
def wX5_both5 (σ : kS) (Q : Int32 → kS → Prop) : Prop :=
  wX5_not5 σ (fun r2 s1 => wX5_both5_5 Q r2 s1)
def wX5_either5_5 (Q : Int32 → kS → Prop) (l1 : Int32) (σ : kS) : Prop :=
  ∀ P5 : kS → Int32 → Prop, (∀ (σ : kS) (l1 : Int32), (wX5_isWord (111 : Int32) (114 : Int32) (0 : Int32) (0 : Int32) (0 : Int32) (0 : Int32) (0 : Int32) (0 : Int32) σ (fun r4 s3 => (r4 = 0 → Q l1 s3) ∧ (¬ r4 = 0 → wX5_next s3 (fun s6 => wX5_both5 s6 (fun r8 s7 => (l1 ≠ 0 → P5 s7 (1 : Int32)) ∧ (l1 = 0 → (r8 = 0 → P5 s7 (0 : Int32)) ∧ (¬ r8 = 0 → P5 s7 (1 : Int32)))))))) → P5 σ l1) → P5 σ l1
def wX5_either5 (σ : kS) (Q : Int32 → kS → Prop) : Prop :=
  wX5_both5 σ (fun r2 s1 => wX5_either5_5 Q r2 s1)
def wX5_atom4_157 (Q : Int32 → kS → Prop) (l1 : Int32) (σ : kS) : Prop :=
  wX5_fail σ (fun s36 => Q l1 s36)
def wX5_atom4_123 (Q : Int32 → kS → Prop) (l1 : Int32) (σ : kS) : Prop :=
  ((σ.1 0 27) ≠ 0 → wX5_atom4_157 Q l1 σ) ∧ ((σ.1 0 27) = 0 → ((σ.1 0 23) ≠ (1 : Int32) → wX5_atom4_157 Q l1 σ) ∧ ((σ.1 0 23) = (1 : Int32) → wX5_name σ (fun r30 s29 => ((s29.1 0 27) ≠ 0 → Q r30 s29) ∧ ((s29.1 0 27) = 0 → wX5_next s29 (fun s32 => Q r30 s32)))))
def wX5_atom4_71 (Q : Int32 → kS → Prop) (l1 : Int32) (σ : kS) : Prop :=
  ∀ s33 : kS, s33 = kset σ 0 26 ((σ.1 0 26) - (1 : Int32)) → ((s33.1 0 27) ≠ 0 → Q l1 s33) ∧ ((s33.1 0 27) = 0 → wX5_next s33 (fun s35 => Q l1 s35))
def wX5_atom4 (σ : kS) (Q : Int32 → kS → Prop) : Prop :=
  wX5_isSign (45 : Int32) σ (fun r2 s1 => (r2 = 0 → wX5_isSign (40 : Int32) s1 (fun r5 s4 => (r5 = 0 → ((s4.1 0 27) ≠ 0 → wX5_atom4_123 Q (0 : Int32) s4) ∧ ((s4.1 0 27) = 0 → ((s4.1 0 23) ≠ (2 : Int32) → wX5_atom4_123 Q (0 : Int32) s4) ∧ ((s4.1 0 23) = (2 : Int32) → ∀ x9 : Int32, x9 = s4.2.toInt32 → wX5_next s4 (fun s10 => Q x9 s10)))) ∧ (¬ r5 = 0 → wX5_opens s4 (fun r12 s11 => (r12 = 0 → Q (0 : Int32) s11) ∧ (¬ r12 = 0 → wX5_either5 s11 (fun r15 s14 => wX5_isSign (41 : Int32) s14 (fun r17 s16 => (r17 ≠ 0 → wX5_atom4_71 Q r15 s16) ∧ (r17 = 0 → wX5_fail s16 (fun s19 => wX5_atom4_71 Q r15 s19))))))))) ∧ (¬ r2 = 0 → wX5_opens s1 (fun r21 s20 => (r21 = 0 → Q (0 : Int32) s20) ∧ (¬ r21 = 0 → wX5_atom5 s20 (fun r24 s23 => ∀ x25 : Int32, x25 = -r24 → ∀ s26 : kS, s26 = kset s23 0 26 ((s23.1 0 26) - (1 : Int32)) → Q x25 s26)))))
def wX5_term4_5 (Q : Int32 → kS → Prop) (l1 : Int32) (σ : kS) : Prop :=
  ∀ P5 : kS → Int32 → Prop, (∀ (σ : kS) (l1 : Int32), (wX5_isSign (42 : Int32) σ (fun r4 s3 => (r4 = 0 → Q l1 s3) ∧ (¬ r4 = 0 → wX5_next s3 (fun s6 => wX5_atom4 s6 (fun r8 s7 => ∀ x9 : Int32, x9 = l1 * r8 → P5 s7 x9))))) → P5 σ l1) → P5 σ l1
def wX5_term4 (σ : kS) (Q : Int32 → kS → Prop) : Prop :=
  wX5_atom4 σ (fun r2 s1 => wX5_term4_5 Q r2 s1)
def wX5_added4_39 (Q : Int32 → kS → Prop) (P5 : kS → Int32 → Prop) (l1 : Int32) (ks0 : Int32) (σ : kS) : Prop :=
  wX5_next σ (fun s10 => wX5_term4 s10 (fun r12 s11 => (ks0 = 0 → ∀ x14 : Int32, x14 = l1 - r12 → P5 s11 x14) ∧ (¬ ks0 = 0 → ∀ x15 : Int32, x15 = l1 + r12 → P5 s11 x15)))
def wX5_added4_23 (Q : Int32 → kS → Prop) (P5 : kS → Int32 → Prop) (l1 : Int32) (σ : kS) : Prop :=
  ((lg_cmp σ.2 (43 : Int64)) ≠ 0 → wX5_added4_39 Q P5 l1 (0 : Int32) σ) ∧ ((lg_cmp σ.2 (43 : Int64)) = 0 → wX5_added4_39 Q P5 l1 (1 : Int32) σ)
def wX5_added4_5 (Q : Int32 → kS → Prop) (l1 : Int32) (σ : kS) : Prop :=
  ∀ P5 : kS → Int32 → Prop, (∀ (σ : kS) (l1 : Int32), (wX5_isSign (43 : Int32) σ (fun r4 s3 => (r4 ≠ 0 → wX5_added4_23 Q P5 l1 s3) ∧ (r4 = 0 → wX5_isSign (45 : Int32) s3 (fun r7 s6 => (r7 = 0 → Q l1 s6) ∧ (¬ r7 = 0 → wX5_added4_23 Q P5 l1 s6))))) → P5 σ l1) → P5 σ l1
def wX5_added4 (σ : kS) (Q : Int32 → kS → Prop) : Prop :=
  wX5_term4 σ (fun r2 s1 => wX5_added4_5 Q r2 s1)
def wX5_not4_93 (Q : Int32 → kS → Prop) (l1 : Int32) (ks0 : Int32) (σ : kS) : Prop :=
  wX5_next σ (fun s20 => wX5_added4 s20 (fun r22 s21 => (ks0 = 0 → (l1 ≠ r22 → Q (0 : Int32) s21) ∧ (l1 = r22 → Q (1 : Int32) s21)) ∧ (¬ ks0 = 0 → (r22 ≤ l1 → Q (0 : Int32) s21) ∧ (¬ r22 ≤ l1 → Q (1 : Int32) s21))))
def wX5_not4_77 (Q : Int32 → kS → Prop) (l1 : Int32) (σ : kS) : Prop :=
  ((lg_cmp σ.2 (60 : Int64)) ≠ 0 → wX5_not4_93 Q l1 (0 : Int32) σ) ∧ ((lg_cmp σ.2 (60 : Int64)) = 0 → wX5_not4_93 Q l1 (1 : Int32) σ)
def wX5_not4 (σ : kS) (Q : Int32 → kS → Prop) : Prop :=
  wX5_isWord (110 : Int32) (111 : Int32) (116 : Int32) (0 : Int32) (0 : Int32) (0 : Int32) (0 : Int32) (0 : Int32) σ (fun r2 s1 => (r2 = 0 → wX5_added4 s1 (fun r5 s4 => wX5_isSign (60 : Int32) s4 (fun r7 s6 => (r7 ≠ 0 → wX5_not4_77 Q r5 s6) ∧ (r7 = 0 → wX5_isSign (61 : Int32) s6 (fun r10 s9 => (r10 ≠ 0 → wX5_not4_77 Q r5 s9) ∧ (r10 = 0 → Q r5 s9)))))) ∧ (¬ r2 = 0 → wX5_opens s1 (fun r13 s12 => (r13 ≠ 0 → wX5_not5 s12 (fun r16 s15 => ∀ s17 : kS, s17 = kset s15 0 26 ((s15.1 0 26) - (1 : Int32)) → (r16 ≠ 0 → Q (0 : Int32) s17) ∧ (r16 = 0 → Q (1 : Int32) s17))) ∧ (r13 = 0 → Q (0 : Int32) s12))))
def wX5_both4_5 (Q : Int32 → kS → Prop) (l1 : Int32) (σ : kS) : Prop :=
  ∀ P5 : kS → Int32 → Prop, (∀ (σ : kS) (l1 : Int32), (wX5_isWord (97 : Int32) (110 : Int32) (100 : Int32) (0 : Int32) (0 : Int32) (0 : Int32) (0 : Int32) (0 : Int32) σ (fun r4 s3 => (r4 = 0 → Q l1 s3) ∧ (¬ r4 = 0 → wX5_next s3 (fun s6 => wX5_not4 s6 (fun r8 s7 => (l1 = 0 → P5 s7 (0 : Int32)) ∧ (¬ l1 = 0 → (r8 = 0 → P5 s7 (0 : Int32)) ∧ (¬ r8 = 0 → P5 s7 (1 : Int32)))))))) → P5 σ l1) → P5 σ l1
def wX5_both4 (σ : kS) (Q : Int32 → kS → Prop) : Prop :=
  wX5_not4 σ (fun r2 s1 => wX5_both4_5 Q r2 s1)
def wX5_either4_5 (Q : Int32 → kS → Prop) (l1 : Int32) (σ : kS) : Prop :=
  ∀ P5 : kS → Int32 → Prop, (∀ (σ : kS) (l1 : Int32), (wX5_isWord (111 : Int32) (114 : Int32) (0 : Int32) (0 : Int32) (0 : Int32) (0 : Int32) (0 : Int32) (0 : Int32) σ (fun r4 s3 => (r4 = 0 → Q l1 s3) ∧ (¬ r4 = 0 → wX5_next s3 (fun s6 => wX5_both4 s6 (fun r8 s7 => (l1 ≠ 0 → P5 s7 (1 : Int32)) ∧ (l1 = 0 → (r8 = 0 → P5 s7 (0 : Int32)) ∧ (¬ r8 = 0 → P5 s7 (1 : Int32)))))))) → P5 σ l1) → P5 σ l1
def wX5_either4 (σ : kS) (Q : Int32 → kS → Prop) : Prop :=
  wX5_both4 σ (fun r2 s1 => wX5_either4_5 Q r2 s1)
def wX5_atom3_157 (Q : Int32 → kS → Prop) (l1 : Int32) (σ : kS) : Prop :=
  wX5_fail σ (fun s36 => Q l1 s36)
def wX5_atom3_123 (Q : Int32 → kS → Prop) (l1 : Int32) (σ : kS) : Prop :=
  ((σ.1 0 27) ≠ 0 → wX5_atom3_157 Q l1 σ) ∧ ((σ.1 0 27) = 0 → ((σ.1 0 23) ≠ (1 : Int32) → wX5_atom3_157 Q l1 σ) ∧ ((σ.1 0 23) = (1 : Int32) → wX5_name σ (fun r30 s29 => ((s29.1 0 27) ≠ 0 → Q r30 s29) ∧ ((s29.1 0 27) = 0 → wX5_next s29 (fun s32 => Q r30 s32)))))
def wX5_atom3_71 (Q : Int32 → kS → Prop) (l1 : Int32) (σ : kS) : Prop :=
  ∀ s33 : kS, s33 = kset σ 0 26 ((σ.1 0 26) - (1 : Int32)) → ((s33.1 0 27) ≠ 0 → Q l1 s33) ∧ ((s33.1 0 27) = 0 → wX5_next s33 (fun s35 => Q l1 s35))
def wX5_atom3 (σ : kS) (Q : Int32 → kS → Prop) : Prop :=
  wX5_isSign (45 : Int32) σ (fun r2 s1 => (r2 = 0 → wX5_isSign (40 : Int32) s1 (fun r5 s4 => (r5 = 0 → ((s4.1 0 27) ≠ 0 → wX5_atom3_123 Q (0 : Int32) s4) ∧ ((s4.1 0 27) = 0 → ((s4.1 0 23) ≠ (2 : Int32) → wX5_atom3_123 Q (0 : Int32) s4) ∧ ((s4.1 0 23) = (2 : Int32) → ∀ x9 : Int32, x9 = s4.2.toInt32 → wX5_next s4 (fun s10 => Q x9 s10)))) ∧ (¬ r5 = 0 → wX5_opens s4 (fun r12 s11 => (r12 = 0 → Q (0 : Int32) s11) ∧ (¬ r12 = 0 → wX5_either4 s11 (fun r15 s14 => wX5_isSign (41 : Int32) s14 (fun r17 s16 => (r17 ≠ 0 → wX5_atom3_71 Q r15 s16) ∧ (r17 = 0 → wX5_fail s16 (fun s19 => wX5_atom3_71 Q r15 s19))))))))) ∧ (¬ r2 = 0 → wX5_opens s1 (fun r21 s20 => (r21 = 0 → Q (0 : Int32) s20) ∧ (¬ r21 = 0 → wX5_atom4 s20 (fun r24 s23 => ∀ x25 : Int32, x25 = -r24 → ∀ s26 : kS, s26 = kset s23 0 26 ((s23.1 0 26) - (1 : Int32)) → Q x25 s26)))))
def wX5_term3_5 (Q : Int32 → kS → Prop) (l1 : Int32) (σ : kS) : Prop :=
  ∀ P5 : kS → Int32 → Prop, (∀ (σ : kS) (l1 : Int32), (wX5_isSign (42 : Int32) σ (fun r4 s3 => (r4 = 0 → Q l1 s3) ∧ (¬ r4 = 0 → wX5_next s3 (fun s6 => wX5_atom3 s6 (fun r8 s7 => ∀ x9 : Int32, x9 = l1 * r8 → P5 s7 x9))))) → P5 σ l1) → P5 σ l1
def wX5_term3 (σ : kS) (Q : Int32 → kS → Prop) : Prop :=
  wX5_atom3 σ (fun r2 s1 => wX5_term3_5 Q r2 s1)
def wX5_added3_39 (Q : Int32 → kS → Prop) (P5 : kS → Int32 → Prop) (l1 : Int32) (ks0 : Int32) (σ : kS) : Prop :=
  wX5_next σ (fun s10 => wX5_term3 s10 (fun r12 s11 => (ks0 = 0 → ∀ x14 : Int32, x14 = l1 - r12 → P5 s11 x14) ∧ (¬ ks0 = 0 → ∀ x15 : Int32, x15 = l1 + r12 → P5 s11 x15)))
def wX5_added3_23 (Q : Int32 → kS → Prop) (P5 : kS → Int32 → Prop) (l1 : Int32) (σ : kS) : Prop :=
  ((lg_cmp σ.2 (43 : Int64)) ≠ 0 → wX5_added3_39 Q P5 l1 (0 : Int32) σ) ∧ ((lg_cmp σ.2 (43 : Int64)) = 0 → wX5_added3_39 Q P5 l1 (1 : Int32) σ)
def wX5_added3_5 (Q : Int32 → kS → Prop) (l1 : Int32) (σ : kS) : Prop :=
  ∀ P5 : kS → Int32 → Prop, (∀ (σ : kS) (l1 : Int32), (wX5_isSign (43 : Int32) σ (fun r4 s3 => (r4 ≠ 0 → wX5_added3_23 Q P5 l1 s3) ∧ (r4 = 0 → wX5_isSign (45 : Int32) s3 (fun r7 s6 => (r7 = 0 → Q l1 s6) ∧ (¬ r7 = 0 → wX5_added3_23 Q P5 l1 s6))))) → P5 σ l1) → P5 σ l1
def wX5_added3 (σ : kS) (Q : Int32 → kS → Prop) : Prop :=
  wX5_term3 σ (fun r2 s1 => wX5_added3_5 Q r2 s1)
def wX5_not3_93 (Q : Int32 → kS → Prop) (l1 : Int32) (ks0 : Int32) (σ : kS) : Prop :=
  wX5_next σ (fun s20 => wX5_added3 s20 (fun r22 s21 => (ks0 = 0 → (l1 ≠ r22 → Q (0 : Int32) s21) ∧ (l1 = r22 → Q (1 : Int32) s21)) ∧ (¬ ks0 = 0 → (r22 ≤ l1 → Q (0 : Int32) s21) ∧ (¬ r22 ≤ l1 → Q (1 : Int32) s21))))
def wX5_not3_77 (Q : Int32 → kS → Prop) (l1 : Int32) (σ : kS) : Prop :=
  ((lg_cmp σ.2 (60 : Int64)) ≠ 0 → wX5_not3_93 Q l1 (0 : Int32) σ) ∧ ((lg_cmp σ.2 (60 : Int64)) = 0 → wX5_not3_93 Q l1 (1 : Int32) σ)
def wX5_not3 (σ : kS) (Q : Int32 → kS → Prop) : Prop :=
  wX5_isWord (110 : Int32) (111 : Int32) (116 : Int32) (0 : Int32) (0 : Int32) (0 : Int32) (0 : Int32) (0 : Int32) σ (fun r2 s1 => (r2 = 0 → wX5_added3 s1 (fun r5 s4 => wX5_isSign (60 : Int32) s4 (fun r7 s6 => (r7 ≠ 0 → wX5_not3_77 Q r5 s6) ∧ (r7 = 0 → wX5_isSign (61 : Int32) s6 (fun r10 s9 => (r10 ≠ 0 → wX5_not3_77 Q r5 s9) ∧ (r10 = 0 → Q r5 s9)))))) ∧ (¬ r2 = 0 → wX5_opens s1 (fun r13 s12 => (r13 ≠ 0 → wX5_not4 s12 (fun r16 s15 => ∀ s17 : kS, s17 = kset s15 0 26 ((s15.1 0 26) - (1 : Int32)) → (r16 ≠ 0 → Q (0 : Int32) s17) ∧ (r16 = 0 → Q (1 : Int32) s17))) ∧ (r13 = 0 → Q (0 : Int32) s12))))
def wX5_both3_5 (Q : Int32 → kS → Prop) (l1 : Int32) (σ : kS) : Prop :=
  ∀ P5 : kS → Int32 → Prop, (∀ (σ : kS) (l1 : Int32), (wX5_isWord (97 : Int32) (110 : Int32) (100 : Int32) (0 : Int32) (0 : Int32) (0 : Int32) (0 : Int32) (0 : Int32) σ (fun r4 s3 => (r4 = 0 → Q l1 s3) ∧ (¬ r4 = 0 → wX5_next s3 (fun s6 => wX5_not3 s6 (fun r8 s7 => (l1 = 0 → P5 s7 (0 : Int32)) ∧ (¬ l1 = 0 → (r8 = 0 → P5 s7 (0 : Int32)) ∧ (¬ r8 = 0 → P5 s7 (1 : Int32)))))))) → P5 σ l1) → P5 σ l1
def wX5_both3 (σ : kS) (Q : Int32 → kS → Prop) : Prop :=
  wX5_not3 σ (fun r2 s1 => wX5_both3_5 Q r2 s1)
def wX5_either3_5 (Q : Int32 → kS → Prop) (l1 : Int32) (σ : kS) : Prop :=
  ∀ P5 : kS → Int32 → Prop, (∀ (σ : kS) (l1 : Int32), (wX5_isWord (111 : Int32) (114 : Int32) (0 : Int32) (0 : Int32) (0 : Int32) (0 : Int32) (0 : Int32) (0 : Int32) σ (fun r4 s3 => (r4 = 0 → Q l1 s3) ∧ (¬ r4 = 0 → wX5_next s3 (fun s6 => wX5_both3 s6 (fun r8 s7 => (l1 ≠ 0 → P5 s7 (1 : Int32)) ∧ (l1 = 0 → (r8 = 0 → P5 s7 (0 : Int32)) ∧ (¬ r8 = 0 → P5 s7 (1 : Int32)))))))) → P5 σ l1) → P5 σ l1
def wX5_either3 (σ : kS) (Q : Int32 → kS → Prop) : Prop :=
  wX5_both3 σ (fun r2 s1 => wX5_either3_5 Q r2 s1)
def wX5_atom2_157 (Q : Int32 → kS → Prop) (l1 : Int32) (σ : kS) : Prop :=
  wX5_fail σ (fun s36 => Q l1 s36)
def wX5_atom2_123 (Q : Int32 → kS → Prop) (l1 : Int32) (σ : kS) : Prop :=
  ((σ.1 0 27) ≠ 0 → wX5_atom2_157 Q l1 σ) ∧ ((σ.1 0 27) = 0 → ((σ.1 0 23) ≠ (1 : Int32) → wX5_atom2_157 Q l1 σ) ∧ ((σ.1 0 23) = (1 : Int32) → wX5_name σ (fun r30 s29 => ((s29.1 0 27) ≠ 0 → Q r30 s29) ∧ ((s29.1 0 27) = 0 → wX5_next s29 (fun s32 => Q r30 s32)))))
def wX5_atom2_71 (Q : Int32 → kS → Prop) (l1 : Int32) (σ : kS) : Prop :=
  ∀ s33 : kS, s33 = kset σ 0 26 ((σ.1 0 26) - (1 : Int32)) → ((s33.1 0 27) ≠ 0 → Q l1 s33) ∧ ((s33.1 0 27) = 0 → wX5_next s33 (fun s35 => Q l1 s35))
def wX5_atom2 (σ : kS) (Q : Int32 → kS → Prop) : Prop :=
  wX5_isSign (45 : Int32) σ (fun r2 s1 => (r2 = 0 → wX5_isSign (40 : Int32) s1 (fun r5 s4 => (r5 = 0 → ((s4.1 0 27) ≠ 0 → wX5_atom2_123 Q (0 : Int32) s4) ∧ ((s4.1 0 27) = 0 → ((s4.1 0 23) ≠ (2 : Int32) → wX5_atom2_123 Q (0 : Int32) s4) ∧ ((s4.1 0 23) = (2 : Int32) → ∀ x9 : Int32, x9 = s4.2.toInt32 → wX5_next s4 (fun s10 => Q x9 s10)))) ∧ (¬ r5 = 0 → wX5_opens s4 (fun r12 s11 => (r12 = 0 → Q (0 : Int32) s11) ∧ (¬ r12 = 0 → wX5_either3 s11 (fun r15 s14 => wX5_isSign (41 : Int32) s14 (fun r17 s16 => (r17 ≠ 0 → wX5_atom2_71 Q r15 s16) ∧ (r17 = 0 → wX5_fail s16 (fun s19 => wX5_atom2_71 Q r15 s19))))))))) ∧ (¬ r2 = 0 → wX5_opens s1 (fun r21 s20 => (r21 = 0 → Q (0 : Int32) s20) ∧ (¬ r21 = 0 → wX5_atom3 s20 (fun r24 s23 => ∀ x25 : Int32, x25 = -r24 → ∀ s26 : kS, s26 = kset s23 0 26 ((s23.1 0 26) - (1 : Int32)) → Q x25 s26)))))
def wX5_term2_5 (Q : Int32 → kS → Prop) (l1 : Int32) (σ : kS) : Prop :=
  ∀ P5 : kS → Int32 → Prop, (∀ (σ : kS) (l1 : Int32), (wX5_isSign (42 : Int32) σ (fun r4 s3 => (r4 = 0 → Q l1 s3) ∧ (¬ r4 = 0 → wX5_next s3 (fun s6 => wX5_atom2 s6 (fun r8 s7 => ∀ x9 : Int32, x9 = l1 * r8 → P5 s7 x9))))) → P5 σ l1) → P5 σ l1
def wX5_term2 (σ : kS) (Q : Int32 → kS → Prop) : Prop :=
  wX5_atom2 σ (fun r2 s1 => wX5_term2_5 Q r2 s1)
def wX5_added2_39 (Q : Int32 → kS → Prop) (P5 : kS → Int32 → Prop) (l1 : Int32) (ks0 : Int32) (σ : kS) : Prop :=
  wX5_next σ (fun s10 => wX5_term2 s10 (fun r12 s11 => (ks0 = 0 → ∀ x14 : Int32, x14 = l1 - r12 → P5 s11 x14) ∧ (¬ ks0 = 0 → ∀ x15 : Int32, x15 = l1 + r12 → P5 s11 x15)))
def wX5_added2_23 (Q : Int32 → kS → Prop) (P5 : kS → Int32 → Prop) (l1 : Int32) (σ : kS) : Prop :=
  ((lg_cmp σ.2 (43 : Int64)) ≠ 0 → wX5_added2_39 Q P5 l1 (0 : Int32) σ) ∧ ((lg_cmp σ.2 (43 : Int64)) = 0 → wX5_added2_39 Q P5 l1 (1 : Int32) σ)
def wX5_added2_5 (Q : Int32 → kS → Prop) (l1 : Int32) (σ : kS) : Prop :=
  ∀ P5 : kS → Int32 → Prop, (∀ (σ : kS) (l1 : Int32), (wX5_isSign (43 : Int32) σ (fun r4 s3 => (r4 ≠ 0 → wX5_added2_23 Q P5 l1 s3) ∧ (r4 = 0 → wX5_isSign (45 : Int32) s3 (fun r7 s6 => (r7 = 0 → Q l1 s6) ∧ (¬ r7 = 0 → wX5_added2_23 Q P5 l1 s6))))) → P5 σ l1) → P5 σ l1
def wX5_added2 (σ : kS) (Q : Int32 → kS → Prop) : Prop :=
  wX5_term2 σ (fun r2 s1 => wX5_added2_5 Q r2 s1)
def wX5_not2_93 (Q : Int32 → kS → Prop) (l1 : Int32) (ks0 : Int32) (σ : kS) : Prop :=
  wX5_next σ (fun s20 => wX5_added2 s20 (fun r22 s21 => (ks0 = 0 → (l1 ≠ r22 → Q (0 : Int32) s21) ∧ (l1 = r22 → Q (1 : Int32) s21)) ∧ (¬ ks0 = 0 → (r22 ≤ l1 → Q (0 : Int32) s21) ∧ (¬ r22 ≤ l1 → Q (1 : Int32) s21))))
def wX5_not2_77 (Q : Int32 → kS → Prop) (l1 : Int32) (σ : kS) : Prop :=
  ((lg_cmp σ.2 (60 : Int64)) ≠ 0 → wX5_not2_93 Q l1 (0 : Int32) σ) ∧ ((lg_cmp σ.2 (60 : Int64)) = 0 → wX5_not2_93 Q l1 (1 : Int32) σ)
def wX5_not2 (σ : kS) (Q : Int32 → kS → Prop) : Prop :=
  wX5_isWord (110 : Int32) (111 : Int32) (116 : Int32) (0 : Int32) (0 : Int32) (0 : Int32) (0 : Int32) (0 : Int32) σ (fun r2 s1 => (r2 = 0 → wX5_added2 s1 (fun r5 s4 => wX5_isSign (60 : Int32) s4 (fun r7 s6 => (r7 ≠ 0 → wX5_not2_77 Q r5 s6) ∧ (r7 = 0 → wX5_isSign (61 : Int32) s6 (fun r10 s9 => (r10 ≠ 0 → wX5_not2_77 Q r5 s9) ∧ (r10 = 0 → Q r5 s9)))))) ∧ (¬ r2 = 0 → wX5_opens s1 (fun r13 s12 => (r13 ≠ 0 → wX5_not3 s12 (fun r16 s15 => ∀ s17 : kS, s17 = kset s15 0 26 ((s15.1 0 26) - (1 : Int32)) → (r16 ≠ 0 → Q (0 : Int32) s17) ∧ (r16 = 0 → Q (1 : Int32) s17))) ∧ (r13 = 0 → Q (0 : Int32) s12))))
def wX5_both2_5 (Q : Int32 → kS → Prop) (l1 : Int32) (σ : kS) : Prop :=
  ∀ P5 : kS → Int32 → Prop, (∀ (σ : kS) (l1 : Int32), (wX5_isWord (97 : Int32) (110 : Int32) (100 : Int32) (0 : Int32) (0 : Int32) (0 : Int32) (0 : Int32) (0 : Int32) σ (fun r4 s3 => (r4 = 0 → Q l1 s3) ∧ (¬ r4 = 0 → wX5_next s3 (fun s6 => wX5_not2 s6 (fun r8 s7 => (l1 = 0 → P5 s7 (0 : Int32)) ∧ (¬ l1 = 0 → (r8 = 0 → P5 s7 (0 : Int32)) ∧ (¬ r8 = 0 → P5 s7 (1 : Int32)))))))) → P5 σ l1) → P5 σ l1
def wX5_both2 (σ : kS) (Q : Int32 → kS → Prop) : Prop :=
  wX5_not2 σ (fun r2 s1 => wX5_both2_5 Q r2 s1)
def wX5_either2_5 (Q : Int32 → kS → Prop) (l1 : Int32) (σ : kS) : Prop :=
  ∀ P5 : kS → Int32 → Prop, (∀ (σ : kS) (l1 : Int32), (wX5_isWord (111 : Int32) (114 : Int32) (0 : Int32) (0 : Int32) (0 : Int32) (0 : Int32) (0 : Int32) (0 : Int32) σ (fun r4 s3 => (r4 = 0 → Q l1 s3) ∧ (¬ r4 = 0 → wX5_next s3 (fun s6 => wX5_both2 s6 (fun r8 s7 => (l1 ≠ 0 → P5 s7 (1 : Int32)) ∧ (l1 = 0 → (r8 = 0 → P5 s7 (0 : Int32)) ∧ (¬ r8 = 0 → P5 s7 (1 : Int32)))))))) → P5 σ l1) → P5 σ l1
def wX5_either2 (σ : kS) (Q : Int32 → kS → Prop) : Prop :=
  wX5_both2 σ (fun r2 s1 => wX5_either2_5 Q r2 s1)
def wX5_atom1_157 (Q : Int32 → kS → Prop) (l1 : Int32) (σ : kS) : Prop :=
  wX5_fail σ (fun s36 => Q l1 s36)
def wX5_atom1_123 (Q : Int32 → kS → Prop) (l1 : Int32) (σ : kS) : Prop :=
  ((σ.1 0 27) ≠ 0 → wX5_atom1_157 Q l1 σ) ∧ ((σ.1 0 27) = 0 → ((σ.1 0 23) ≠ (1 : Int32) → wX5_atom1_157 Q l1 σ) ∧ ((σ.1 0 23) = (1 : Int32) → wX5_name σ (fun r30 s29 => ((s29.1 0 27) ≠ 0 → Q r30 s29) ∧ ((s29.1 0 27) = 0 → wX5_next s29 (fun s32 => Q r30 s32)))))
def wX5_atom1_71 (Q : Int32 → kS → Prop) (l1 : Int32) (σ : kS) : Prop :=
  ∀ s33 : kS, s33 = kset σ 0 26 ((σ.1 0 26) - (1 : Int32)) → ((s33.1 0 27) ≠ 0 → Q l1 s33) ∧ ((s33.1 0 27) = 0 → wX5_next s33 (fun s35 => Q l1 s35))
def wX5_atom1 (σ : kS) (Q : Int32 → kS → Prop) : Prop :=
  wX5_isSign (45 : Int32) σ (fun r2 s1 => (r2 = 0 → wX5_isSign (40 : Int32) s1 (fun r5 s4 => (r5 = 0 → ((s4.1 0 27) ≠ 0 → wX5_atom1_123 Q (0 : Int32) s4) ∧ ((s4.1 0 27) = 0 → ((s4.1 0 23) ≠ (2 : Int32) → wX5_atom1_123 Q (0 : Int32) s4) ∧ ((s4.1 0 23) = (2 : Int32) → ∀ x9 : Int32, x9 = s4.2.toInt32 → wX5_next s4 (fun s10 => Q x9 s10)))) ∧ (¬ r5 = 0 → wX5_opens s4 (fun r12 s11 => (r12 = 0 → Q (0 : Int32) s11) ∧ (¬ r12 = 0 → wX5_either2 s11 (fun r15 s14 => wX5_isSign (41 : Int32) s14 (fun r17 s16 => (r17 ≠ 0 → wX5_atom1_71 Q r15 s16) ∧ (r17 = 0 → wX5_fail s16 (fun s19 => wX5_atom1_71 Q r15 s19))))))))) ∧ (¬ r2 = 0 → wX5_opens s1 (fun r21 s20 => (r21 = 0 → Q (0 : Int32) s20) ∧ (¬ r21 = 0 → wX5_atom2 s20 (fun r24 s23 => ∀ x25 : Int32, x25 = -r24 → ∀ s26 : kS, s26 = kset s23 0 26 ((s23.1 0 26) - (1 : Int32)) → Q x25 s26)))))
def wX5_term1_5 (Q : Int32 → kS → Prop) (l1 : Int32) (σ : kS) : Prop :=
  ∀ P5 : kS → Int32 → Prop, (∀ (σ : kS) (l1 : Int32), (wX5_isSign (42 : Int32) σ (fun r4 s3 => (r4 = 0 → Q l1 s3) ∧ (¬ r4 = 0 → wX5_next s3 (fun s6 => wX5_atom1 s6 (fun r8 s7 => ∀ x9 : Int32, x9 = l1 * r8 → P5 s7 x9))))) → P5 σ l1) → P5 σ l1
def wX5_term1 (σ : kS) (Q : Int32 → kS → Prop) : Prop :=
  wX5_atom1 σ (fun r2 s1 => wX5_term1_5 Q r2 s1)
def wX5_added1_39 (Q : Int32 → kS → Prop) (P5 : kS → Int32 → Prop) (l1 : Int32) (ks0 : Int32) (σ : kS) : Prop :=
  wX5_next σ (fun s10 => wX5_term1 s10 (fun r12 s11 => (ks0 = 0 → ∀ x14 : Int32, x14 = l1 - r12 → P5 s11 x14) ∧ (¬ ks0 = 0 → ∀ x15 : Int32, x15 = l1 + r12 → P5 s11 x15)))
def wX5_added1_23 (Q : Int32 → kS → Prop) (P5 : kS → Int32 → Prop) (l1 : Int32) (σ : kS) : Prop :=
  ((lg_cmp σ.2 (43 : Int64)) ≠ 0 → wX5_added1_39 Q P5 l1 (0 : Int32) σ) ∧ ((lg_cmp σ.2 (43 : Int64)) = 0 → wX5_added1_39 Q P5 l1 (1 : Int32) σ)
def wX5_added1_5 (Q : Int32 → kS → Prop) (l1 : Int32) (σ : kS) : Prop :=
  ∀ P5 : kS → Int32 → Prop, (∀ (σ : kS) (l1 : Int32), (wX5_isSign (43 : Int32) σ (fun r4 s3 => (r4 ≠ 0 → wX5_added1_23 Q P5 l1 s3) ∧ (r4 = 0 → wX5_isSign (45 : Int32) s3 (fun r7 s6 => (r7 = 0 → Q l1 s6) ∧ (¬ r7 = 0 → wX5_added1_23 Q P5 l1 s6))))) → P5 σ l1) → P5 σ l1
def wX5_added1 (σ : kS) (Q : Int32 → kS → Prop) : Prop :=
  wX5_term1 σ (fun r2 s1 => wX5_added1_5 Q r2 s1)
def wX5_not1_93 (Q : Int32 → kS → Prop) (l1 : Int32) (ks0 : Int32) (σ : kS) : Prop :=
  wX5_next σ (fun s20 => wX5_added1 s20 (fun r22 s21 => (ks0 = 0 → (l1 ≠ r22 → Q (0 : Int32) s21) ∧ (l1 = r22 → Q (1 : Int32) s21)) ∧ (¬ ks0 = 0 → (r22 ≤ l1 → Q (0 : Int32) s21) ∧ (¬ r22 ≤ l1 → Q (1 : Int32) s21))))
def wX5_not1_77 (Q : Int32 → kS → Prop) (l1 : Int32) (σ : kS) : Prop :=
  ((lg_cmp σ.2 (60 : Int64)) ≠ 0 → wX5_not1_93 Q l1 (0 : Int32) σ) ∧ ((lg_cmp σ.2 (60 : Int64)) = 0 → wX5_not1_93 Q l1 (1 : Int32) σ)
def wX5_not1 (σ : kS) (Q : Int32 → kS → Prop) : Prop :=
  wX5_isWord (110 : Int32) (111 : Int32) (116 : Int32) (0 : Int32) (0 : Int32) (0 : Int32) (0 : Int32) (0 : Int32) σ (fun r2 s1 => (r2 = 0 → wX5_added1 s1 (fun r5 s4 => wX5_isSign (60 : Int32) s4 (fun r7 s6 => (r7 ≠ 0 → wX5_not1_77 Q r5 s6) ∧ (r7 = 0 → wX5_isSign (61 : Int32) s6 (fun r10 s9 => (r10 ≠ 0 → wX5_not1_77 Q r5 s9) ∧ (r10 = 0 → Q r5 s9)))))) ∧ (¬ r2 = 0 → wX5_opens s1 (fun r13 s12 => (r13 ≠ 0 → wX5_not2 s12 (fun r16 s15 => ∀ s17 : kS, s17 = kset s15 0 26 ((s15.1 0 26) - (1 : Int32)) → (r16 ≠ 0 → Q (0 : Int32) s17) ∧ (r16 = 0 → Q (1 : Int32) s17))) ∧ (r13 = 0 → Q (0 : Int32) s12))))
def wX5_both1_5 (Q : Int32 → kS → Prop) (l1 : Int32) (σ : kS) : Prop :=
  ∀ P5 : kS → Int32 → Prop, (∀ (σ : kS) (l1 : Int32), (wX5_isWord (97 : Int32) (110 : Int32) (100 : Int32) (0 : Int32) (0 : Int32) (0 : Int32) (0 : Int32) (0 : Int32) σ (fun r4 s3 => (r4 = 0 → Q l1 s3) ∧ (¬ r4 = 0 → wX5_next s3 (fun s6 => wX5_not1 s6 (fun r8 s7 => (l1 = 0 → P5 s7 (0 : Int32)) ∧ (¬ l1 = 0 → (r8 = 0 → P5 s7 (0 : Int32)) ∧ (¬ r8 = 0 → P5 s7 (1 : Int32)))))))) → P5 σ l1) → P5 σ l1
def wX5_both1 (σ : kS) (Q : Int32 → kS → Prop) : Prop :=
  wX5_not1 σ (fun r2 s1 => wX5_both1_5 Q r2 s1)
def wX5_either1_5 (Q : Int32 → kS → Prop) (l1 : Int32) (σ : kS) : Prop :=
  ∀ P5 : kS → Int32 → Prop, (∀ (σ : kS) (l1 : Int32), (wX5_isWord (111 : Int32) (114 : Int32) (0 : Int32) (0 : Int32) (0 : Int32) (0 : Int32) (0 : Int32) (0 : Int32) σ (fun r4 s3 => (r4 = 0 → Q l1 s3) ∧ (¬ r4 = 0 → wX5_next s3 (fun s6 => wX5_both1 s6 (fun r8 s7 => (l1 ≠ 0 → P5 s7 (1 : Int32)) ∧ (l1 = 0 → (r8 = 0 → P5 s7 (0 : Int32)) ∧ (¬ r8 = 0 → P5 s7 (1 : Int32)))))))) → P5 σ l1) → P5 σ l1
def wX5_either1 (σ : kS) (Q : Int32 → kS → Prop) : Prop :=
  wX5_both1 σ (fun r2 s1 => wX5_either1_5 Q r2 s1)
def wX5_atom0_157 (Q : Int32 → kS → Prop) (l1 : Int32) (σ : kS) : Prop :=
  wX5_fail σ (fun s36 => Q l1 s36)
def wX5_atom0_123 (Q : Int32 → kS → Prop) (l1 : Int32) (σ : kS) : Prop :=
  ((σ.1 0 27) ≠ 0 → wX5_atom0_157 Q l1 σ) ∧ ((σ.1 0 27) = 0 → ((σ.1 0 23) ≠ (1 : Int32) → wX5_atom0_157 Q l1 σ) ∧ ((σ.1 0 23) = (1 : Int32) → wX5_name σ (fun r30 s29 => ((s29.1 0 27) ≠ 0 → Q r30 s29) ∧ ((s29.1 0 27) = 0 → wX5_next s29 (fun s32 => Q r30 s32)))))
def wX5_atom0_71 (Q : Int32 → kS → Prop) (l1 : Int32) (σ : kS) : Prop :=
  ∀ s33 : kS, s33 = kset σ 0 26 ((σ.1 0 26) - (1 : Int32)) → ((s33.1 0 27) ≠ 0 → Q l1 s33) ∧ ((s33.1 0 27) = 0 → wX5_next s33 (fun s35 => Q l1 s35))
def wX5_atom0 (σ : kS) (Q : Int32 → kS → Prop) : Prop :=
  wX5_isSign (45 : Int32) σ (fun r2 s1 => (r2 = 0 → wX5_isSign (40 : Int32) s1 (fun r5 s4 => (r5 = 0 → ((s4.1 0 27) ≠ 0 → wX5_atom0_123 Q (0 : Int32) s4) ∧ ((s4.1 0 27) = 0 → ((s4.1 0 23) ≠ (2 : Int32) → wX5_atom0_123 Q (0 : Int32) s4) ∧ ((s4.1 0 23) = (2 : Int32) → ∀ x9 : Int32, x9 = s4.2.toInt32 → wX5_next s4 (fun s10 => Q x9 s10)))) ∧ (¬ r5 = 0 → wX5_opens s4 (fun r12 s11 => (r12 = 0 → Q (0 : Int32) s11) ∧ (¬ r12 = 0 → wX5_either1 s11 (fun r15 s14 => wX5_isSign (41 : Int32) s14 (fun r17 s16 => (r17 ≠ 0 → wX5_atom0_71 Q r15 s16) ∧ (r17 = 0 → wX5_fail s16 (fun s19 => wX5_atom0_71 Q r15 s19))))))))) ∧ (¬ r2 = 0 → wX5_opens s1 (fun r21 s20 => (r21 = 0 → Q (0 : Int32) s20) ∧ (¬ r21 = 0 → wX5_atom1 s20 (fun r24 s23 => ∀ x25 : Int32, x25 = -r24 → ∀ s26 : kS, s26 = kset s23 0 26 ((s23.1 0 26) - (1 : Int32)) → Q x25 s26)))))
def wX5_term0_5 (Q : Int32 → kS → Prop) (l1 : Int32) (σ : kS) : Prop :=
  ∀ P5 : kS → Int32 → Prop, (∀ (σ : kS) (l1 : Int32), (wX5_isSign (42 : Int32) σ (fun r4 s3 => (r4 = 0 → Q l1 s3) ∧ (¬ r4 = 0 → wX5_next s3 (fun s6 => wX5_atom0 s6 (fun r8 s7 => ∀ x9 : Int32, x9 = l1 * r8 → P5 s7 x9))))) → P5 σ l1) → P5 σ l1
def wX5_term0 (σ : kS) (Q : Int32 → kS → Prop) : Prop :=
  wX5_atom0 σ (fun r2 s1 => wX5_term0_5 Q r2 s1)
def wX5_added0_39 (Q : Int32 → kS → Prop) (P5 : kS → Int32 → Prop) (l1 : Int32) (ks0 : Int32) (σ : kS) : Prop :=
  wX5_next σ (fun s10 => wX5_term0 s10 (fun r12 s11 => (ks0 = 0 → ∀ x14 : Int32, x14 = l1 - r12 → P5 s11 x14) ∧ (¬ ks0 = 0 → ∀ x15 : Int32, x15 = l1 + r12 → P5 s11 x15)))
def wX5_added0_23 (Q : Int32 → kS → Prop) (P5 : kS → Int32 → Prop) (l1 : Int32) (σ : kS) : Prop :=
  ((lg_cmp σ.2 (43 : Int64)) ≠ 0 → wX5_added0_39 Q P5 l1 (0 : Int32) σ) ∧ ((lg_cmp σ.2 (43 : Int64)) = 0 → wX5_added0_39 Q P5 l1 (1 : Int32) σ)
def wX5_added0_5 (Q : Int32 → kS → Prop) (l1 : Int32) (σ : kS) : Prop :=
  ∀ P5 : kS → Int32 → Prop, (∀ (σ : kS) (l1 : Int32), (wX5_isSign (43 : Int32) σ (fun r4 s3 => (r4 ≠ 0 → wX5_added0_23 Q P5 l1 s3) ∧ (r4 = 0 → wX5_isSign (45 : Int32) s3 (fun r7 s6 => (r7 = 0 → Q l1 s6) ∧ (¬ r7 = 0 → wX5_added0_23 Q P5 l1 s6))))) → P5 σ l1) → P5 σ l1
def wX5_added0 (σ : kS) (Q : Int32 → kS → Prop) : Prop :=
  wX5_term0 σ (fun r2 s1 => wX5_added0_5 Q r2 s1)
def wX5_not0_93 (Q : Int32 → kS → Prop) (l1 : Int32) (ks0 : Int32) (σ : kS) : Prop :=
  wX5_next σ (fun s20 => wX5_added0 s20 (fun r22 s21 => (ks0 = 0 → (l1 ≠ r22 → Q (0 : Int32) s21) ∧ (l1 = r22 → Q (1 : Int32) s21)) ∧ (¬ ks0 = 0 → (r22 ≤ l1 → Q (0 : Int32) s21) ∧ (¬ r22 ≤ l1 → Q (1 : Int32) s21))))
def wX5_not0_77 (Q : Int32 → kS → Prop) (l1 : Int32) (σ : kS) : Prop :=
  ((lg_cmp σ.2 (60 : Int64)) ≠ 0 → wX5_not0_93 Q l1 (0 : Int32) σ) ∧ ((lg_cmp σ.2 (60 : Int64)) = 0 → wX5_not0_93 Q l1 (1 : Int32) σ)
def wX5_not0 (σ : kS) (Q : Int32 → kS → Prop) : Prop :=
  wX5_isWord (110 : Int32) (111 : Int32) (116 : Int32) (0 : Int32) (0 : Int32) (0 : Int32) (0 : Int32) (0 : Int32) σ (fun r2 s1 => (r2 = 0 → wX5_added0 s1 (fun r5 s4 => wX5_isSign (60 : Int32) s4 (fun r7 s6 => (r7 ≠ 0 → wX5_not0_77 Q r5 s6) ∧ (r7 = 0 → wX5_isSign (61 : Int32) s6 (fun r10 s9 => (r10 ≠ 0 → wX5_not0_77 Q r5 s9) ∧ (r10 = 0 → Q r5 s9)))))) ∧ (¬ r2 = 0 → wX5_opens s1 (fun r13 s12 => (r13 ≠ 0 → wX5_not1 s12 (fun r16 s15 => ∀ s17 : kS, s17 = kset s15 0 26 ((s15.1 0 26) - (1 : Int32)) → (r16 ≠ 0 → Q (0 : Int32) s17) ∧ (r16 = 0 → Q (1 : Int32) s17))) ∧ (r13 = 0 → Q (0 : Int32) s12))))
def wX5_both0_5 (Q : Int32 → kS → Prop) (l1 : Int32) (σ : kS) : Prop :=
  ∀ P5 : kS → Int32 → Prop, (∀ (σ : kS) (l1 : Int32), (wX5_isWord (97 : Int32) (110 : Int32) (100 : Int32) (0 : Int32) (0 : Int32) (0 : Int32) (0 : Int32) (0 : Int32) σ (fun r4 s3 => (r4 = 0 → Q l1 s3) ∧ (¬ r4 = 0 → wX5_next s3 (fun s6 => wX5_not0 s6 (fun r8 s7 => (l1 = 0 → P5 s7 (0 : Int32)) ∧ (¬ l1 = 0 → (r8 = 0 → P5 s7 (0 : Int32)) ∧ (¬ r8 = 0 → P5 s7 (1 : Int32)))))))) → P5 σ l1) → P5 σ l1
def wX5_both0 (σ : kS) (Q : Int32 → kS → Prop) : Prop :=
  wX5_not0 σ (fun r2 s1 => wX5_both0_5 Q r2 s1)
def wX5_either0_5 (Q : Int32 → kS → Prop) (l1 : Int32) (σ : kS) : Prop :=
  ∀ P5 : kS → Int32 → Prop, (∀ (σ : kS) (l1 : Int32), (wX5_isWord (111 : Int32) (114 : Int32) (0 : Int32) (0 : Int32) (0 : Int32) (0 : Int32) (0 : Int32) (0 : Int32) σ (fun r4 s3 => (r4 = 0 → Q l1 s3) ∧ (¬ r4 = 0 → wX5_next s3 (fun s6 => wX5_both0 s6 (fun r8 s7 => (l1 ≠ 0 → P5 s7 (1 : Int32)) ∧ (l1 = 0 → (r8 = 0 → P5 s7 (0 : Int32)) ∧ (¬ r8 = 0 → P5 s7 (1 : Int32)))))))) → P5 σ l1) → P5 σ l1
def wX5_either0 (σ : kS) (Q : Int32 → kS → Prop) : Prop :=
  wX5_both0 σ (fun r2 s1 => wX5_either0_5 Q r2 s1)
def wX5_part_48 (Q : Int32 → kS → Prop) (l2 : Int32) (σ : kS) : Prop :=
  ((σ.1 0 27) ≠ 0 → Q l2 σ) ∧ ((σ.1 0 27) = 0 → wX5_next σ (fun s13 => Q l2 s13))
def wX5_part_34 (Q : Int32 → kS → Prop) (ks0 : Int32) (σ : kS) : Prop :=
  wX5_isSign (59 : Int32) σ (fun r9 s8 => (r9 ≠ 0 → wX5_part_48 Q ks0 s8) ∧ (r9 = 0 → wX5_fail s8 (fun s11 => wX5_part_48 Q ks0 s11)))
def wX5_part_19 (Q : Int32 → kS → Prop) (σ : kS) : Prop :=
  ((σ.1 0 27) = 0 → wX5_either0 σ (fun r7 s6 => wX5_part_34 Q r7 s6)) ∧ (¬ (σ.1 0 27) = 0 → wX5_part_34 Q (0 : Int32) σ)
def wX5_part_8 (Q : Int32 → kS → Prop) (σ : kS) : Prop :=
  ((σ.1 0 27) ≠ 0 → wX5_part_19 Q σ) ∧ ((σ.1 0 27) = 0 → wX5_next σ (fun s4 => wX5_part_19 Q s4))
def wX5_part (l1 : Int32) (σ : kS) (Q : Int32 → kS → Prop) : Prop :=
  (l1 ≠ 0 → wX5_part_8 Q σ) ∧ (l1 = 0 → wX5_fail σ (fun s2 => wX5_part_8 Q s2))
def wX5_read_148 (Q : Int32 → kS → Prop) (l2 : Int32) (l3 : Int32) (l4 : Int32) (l5 : Int32) (σ : kS) : Prop :=
  (l2 ≠ 0 → (l2 ≠ (1 : Int32) → Q l5 σ) ∧ (l2 = (1 : Int32) → Q l4 σ)) ∧ (l2 = 0 → Q l3 σ)
def wX5_read_128 (Q : Int32 → kS → Prop) (l2 : Int32) (l3 : Int32) (l4 : Int32) (ks0 : Int32) (σ : kS) : Prop :=
  ((σ.1 0 27) ≠ 0 → wX5_read_148 Q l2 l3 l4 ks0 σ) ∧ ((σ.1 0 27) = 0 → ((σ.1 0 23) = 0 → wX5_read_148 Q l2 l3 l4 ks0 σ) ∧ (¬ (σ.1 0 23) = 0 → wX5_fail σ (fun s23 => wX5_read_148 Q l2 l3 l4 ks0 s23)))
def wX5_read_94 (Q : Int32 → kS → Prop) (l2 : Int32) (l3 : Int32) (ks0 : Int32) (σ : kS) : Prop :=
  ((σ.1 0 27) = 0 → wX5_isWord (99 : Int32) (97 : Int32) (108 : Int32) (108 : Int32) (115 : Int32) (0 : Int32) (0 : Int32) (0 : Int32) σ (fun r18 s17 => wX5_part r18 s17 (fun r20 s19 => wX5_read_128 Q l2 l3 ks0 r20 s19))) ∧ (¬ (σ.1 0 27) = 0 → wX5_read_128 Q l2 l3 ks0 (0 : Int32) σ)
def wX5_read (l1 : Int32) (l2 : Int32) (σ : kS) (Q : Int32 → kS → Prop) : Prop :=
  ∀ s1 : kS, s1 = kset σ 0 20 ((160 : Int32) * l1) → vp_in l1 6 ∧ ∀ s2 : kS, s2 = kset s1 0 21 (s1.1 2 l1.toNatClampNeg) → ∀ s3 : kS, s3 = kset s2 0 22 (0 : Int32) → ∀ s4 : kS, s4 = kset s3 0 26 (0 : Int32) → ∀ s5 : kS, s5 = kset s4 0 27 (0 : Int32) → wX5_next s5 (fun s6 => wX5_isWord (114 : Int32) (97 : Int32) (105 : Int32) (110 : Int32) (115 : Int32) (0 : Int32) (0 : Int32) (0 : Int32) s6 (fun r8 s7 => wX5_part r8 s7 (fun r10 s9 => ((s9.1 0 27) = 0 → wX5_isWord (115 : Int32) (104 : Int32) (114 : Int32) (105 : Int32) (110 : Int32) (107 : Int32) (115 : Int32) (0 : Int32) s9 (fun r13 s12 => wX5_part r13 s12 (fun r15 s14 => wX5_read_94 Q l2 r10 r15 s14))) ∧ (¬ (s9.1 0 27) = 0 → wX5_read_94 Q l2 r10 (0 : Int32) s9))))
def wX5_says_80 (Q : Int32 → kS → Prop) (ks0 : Int32) (ks1 : Int32) (ks2 : Int32) (σ : kS) : Prop :=
  wX5_within ks2 ks1 ks0 (fun r10 => Q r10 σ)
def wX5_says (l1 : Int32) (l2 : Int32) (l3 : Int32) (σ : kS) (Q : Int32 → kS → Prop) : Prop :=
  vp_in ((3 : Int32) * l2) 36 ∧ ∀ s1 : kS, s1 = kset σ 0 14 (σ.1 4 ((3 : Int32) * l2).toNatClampNeg) → vp_in (((3 : Int32) * l2) + (1 : Int32)) 36 ∧ ∀ s2 : kS, s2 = kset s1 0 15 (s1.1 4 (((3 : Int32) * l2) + (1 : Int32)).toNatClampNeg) → ∀ s3 : kS, s3 = kset s2 0 16 (s2.1 0 8) → ∀ s4 : kS, s4 = kset s3 0 17 l3 → vp_in (((3 : Int32) * l2) + (2 : Int32)) 36 ∧ ∀ s5 : kS, s5 = kset s4 0 18 (s4.1 4 (((3 : Int32) * l2) + (2 : Int32)).toNatClampNeg) → ∀ s6 : kS, s6 = kset s5 0 19 l2 → wX5_read (s6.1 0 4) l1 s6 (fun r8 s7 => (l1 ≠ (1 : Int32) → wX5_says_80 Q (99 : Int32) (0 : Int32) r8 s7) ∧ (l1 = (1 : Int32) → wX5_says_80 Q (20 : Int32) (0 : Int32) r8 s7))
def wX5_costsOf (l1 : Int32) (σ : kS) (Q : Int32 → kS → Prop) : Prop :=
  vp_in l1 6 ∧ ∀ x1 : Int32, x1 = σ.1 5 l1.toNatClampNeg → vp_in ((3 : Int32) * l1) 18 ∧ ∀ x2 : Int32, x2 = σ.1 6 ((3 : Int32) * l1).toNatClampNeg → vp_in (((3 : Int32) * l1) + (1 : Int32)) 18 ∧ wX5_says (2 : Int32) (σ.1 6 (((3 : Int32) * l1) + (1 : Int32)).toNatClampNeg) x2 σ (fun r4 s3 => (x1 ≠ (1 : Int32) → (x1 ≠ (3 : Int32) → (x1 ≠ (2 : Int32) → (x1 ≠ (4 : Int32) → Q r4 s3) ∧ (x1 = (4 : Int32) → Q (((2 : Int32) * r4) + x2) s3)) ∧ (x1 = (2 : Int32) → Q ((2 : Int32) * r4) s3)) ∧ (x1 = (3 : Int32) → Q ((r4 / (2 : Int32)) + x2) s3)) ∧ (x1 = (1 : Int32) → Q (r4 / (2 : Int32)) s3))
def wX5_told (l1 : Int32) (l2 : Int32) (σ : kS) (Q : Int32 → kS → Prop) : Prop :=
  wX5_in l2.toInt64 (0 : Int64) (10 : Int64) (fun r1 => (r1 = 0 → Q (-2 : Int32) σ) ∧ (¬ r1 = 0 → wX5_isOf l2 l1 σ (fun r4 s3 => (r4 ≠ 0 → ((5 : Int32) ≤ l2 → ((9 : Int32) ≤ l2 → (l2 ≠ (9 : Int32) → wX5_costsOf l1 s3 (fun r10 s9 => Q r10 s9)) ∧ (l2 = (9 : Int32) → vp_in (((3 : Int32) * l1) + (1 : Int32)) 18 ∧ wX5_drawsOf l1 (s3.1 6 (((3 : Int32) * l1) + (1 : Int32)).toNatClampNeg) s3 (fun r12 s11 => Q r12 s11))) ∧ (¬ (9 : Int32) ≤ l2 → ((8 : Int32) ≤ l2 → vp_in l1 6 ∧ Q (s3.1 5 l1.toNatClampNeg) s3) ∧ (¬ (8 : Int32) ≤ l2 → vp_in ((((3 : Int32) * l1) + l2) - (5 : Int32)) 18 ∧ Q (s3.1 6 ((((3 : Int32) * l1) + l2) - (5 : Int32)).toNatClampNeg) s3))) ∧ (¬ (5 : Int32) ≤ l2 → (l2 ≠ 0 → (l2 ≠ (1 : Int32) → vp_in ((((3 : Int32) * l1) + l2) - (2 : Int32)) 36 ∧ Q (s3.1 4 ((((3 : Int32) * l1) + l2) - (2 : Int32)).toNatClampNeg) s3) ∧ (l2 = (1 : Int32) → Q (s3.1 0 8) s3)) ∧ (l2 = 0 → Q (s3.1 0 7) s3))) ∧ (r4 = 0 → Q (-2 : Int32) s3))))
def wX5_lays (l1 : Int32) (l2 : Int32) (l3 : Int32) (σ : kS) (Q : kS → Prop) : Prop :=
  (l1 ≠ 0 → (l1 ≠ (1 : Int32) → ((5 : Int32) ≤ l1 → ((8 : Int32) ≤ l1 → (l1 ≠ (8 : Int32) → ∀ s6 : kS, s6 = kset σ 0 4 l3 → Q s6) ∧ (l1 = (8 : Int32) → vp_in l2 6 ∧ ∀ s7 : kS, s7 = kset σ 5 l2.toNatClampNeg l3 → Q s7)) ∧ (¬ (8 : Int32) ≤ l1 → vp_in ((((3 : Int32) * l2) + l1) - (5 : Int32)) 18 ∧ ∀ s8 : kS, s8 = kset σ 6 ((((3 : Int32) * l2) + l1) - (5 : Int32)).toNatClampNeg l3 → Q s8)) ∧ (¬ (5 : Int32) ≤ l1 → vp_in ((((3 : Int32) * l2) + l1) - (2 : Int32)) 36 ∧ ∀ s9 : kS, s9 = kset σ 4 ((((3 : Int32) * l2) + l1) - (2 : Int32)).toNatClampNeg l3 → Q s9)) ∧ (l1 = (1 : Int32) → ∀ s10 : kS, s10 = kset σ 0 8 l3 → Q s10)) ∧ (l1 = 0 → ∀ s11 : kS, s11 = kset σ 0 7 l3 → Q s11)
def wX5_set (l1 : Int32) (l2 : Int32) (l3 : Int32) (σ : kS) (Q : Int32 → kS → Prop) : Prop :=
  wX5_in l1.toInt64 (0 : Int64) (7 : Int64) (fun r1 => (r1 = 0 → Q (-2 : Int32) σ) ∧ (¬ r1 = 0 → wX5_isOf l1 l2 σ (fun r4 s3 => (r4 = 0 → Q (-2 : Int32) s3) ∧ (¬ r4 = 0 → wX5_mostOf l1 (fun r6 => wX5_in l3.toInt64 (0 : Int64) r6.toInt64 (fun r7 => (r7 ≠ 0 → wX5_told l2 l1 s3 (fun r10 s9 => wX5_lays l1 l2 l3 s9 (fun s11 => Q r10 s11))) ∧ (r7 = 0 → Q (-2 : Int32) s3)))))))
def wX5_comes (l1 : Int32) (l2 : Int32) (l3 : Int32) (σ : kS) (Q : kS → Prop) : Prop :=
  vp_in (σ.1 0 13) 6 ∧ ∀ s1 : kS, s1 = kset σ 5 (σ.1 0 13).toNatClampNeg l1 → vp_in ((3 : Int32) * (s1.1 0 13)) 18 ∧ ∀ s2 : kS, s2 = kset s1 6 ((3 : Int32) * (s1.1 0 13)).toNatClampNeg l2 → vp_in (((3 : Int32) * (s2.1 0 13)) + (1 : Int32)) 18 ∧ ∀ s3 : kS, s3 = kset s2 6 (((3 : Int32) * (s2.1 0 13)) + (1 : Int32)).toNatClampNeg l3 → vp_in (((3 : Int32) * (s3.1 0 13)) + (2 : Int32)) 18 ∧ ∀ s4 : kS, s4 = kset s3 6 (((3 : Int32) * (s3.1 0 13)) + (2 : Int32)).toNatClampNeg (1 : Int32) → ∀ s5 : kS, s5 = kset s4 0 13 ((s4.1 0 13) + (1 : Int32)) → Q s5
def wX5_work (l1 : Int32) (l2 : Int32) (l3 : Int32) (σ : kS) (Q : Int32 → kS → Prop) : Prop :=
  wX5_in l1.toInt64 (0 : Int64) (5 : Int64) (fun r1 => (r1 = 0 → Q (-2 : Int32) σ) ∧ (¬ r1 = 0 → wX5_in l2.toInt64 (0 : Int64) (9 : Int64) (fun r3 => (r3 = 0 → Q (-2 : Int32) σ) ∧ (¬ r3 = 0 → wX5_isCell l3 (fun r5 => (r5 ≠ 0 → ((σ.1 0 13) ≠ (6 : Int32) → wX5_comes l1 l2 l3 σ (fun s8 => Q ((s8.1 0 13) - (1 : Int32)) s8)) ∧ ((σ.1 0 13) = (6 : Int32) → Q (-4 : Int32) σ)) ∧ (r5 = 0 → Q (-2 : Int32) σ))))))
def wX5_feed (l1 : Int32) (σ : kS) (Q : Int32 → kS → Prop) : Prop :=
  wX5_in l1.toInt64 (0 : Int64) (255 : Int64) (fun r1 => (r1 ≠ 0 → ((σ.1 0 6) ≠ (160 : Int32) → vp_in (σ.1 0 6) 160 ∧ ∀ s4 : kS, s4 = kset σ 3 (σ.1 0 6).toNatClampNeg l1 → ∀ s5 : kS, s5 = kset s4 0 6 ((s4.1 0 6) + (1 : Int32)) → Q (s5.1 0 6) s5) ∧ ((σ.1 0 6) = (160 : Int32) → Q (-4 : Int32) σ)) ∧ (r1 = 0 → Q (-2 : Int32) σ))
def wX5_text_14 (Q : Int32 → kS → Prop) (l1 : Int32) (σ : kS) : Prop :=
  ∀ P14 : kS → Int32 → Prop, (∀ (σ : kS) (l1 : Int32), (((σ.1 0 6) ≤ l1 → vp_in (σ.1 0 3) 6 ∧ ∀ s3 : kS, s3 = kset σ 2 (σ.1 0 3).toNatClampNeg (σ.1 0 6) → ∀ s4 : kS, s4 = kset s3 0 6 (0 : Int32) → wX5_read (s4.1 0 3) (0 : Int32) s4 (fun r6 s5 => ((s5.1 0 27) = 0 → ∀ s8 : kS, s8 = kset s5 0 3 ((s5.1 0 3) + (1 : Int32)) → Q ((s8.1 0 3) - (1 : Int32)) s8) ∧ (¬ (s5.1 0 27) = 0 → Q ((-100 : Int32) - (s5.1 0 28)) s5))) ∧ (¬ (σ.1 0 6) ≤ l1 → vp_in l1 160 ∧ vp_in (((160 : Int32) * (σ.1 0 3)) + l1) 960 ∧ ∀ s9 : kS, s9 = kset σ 1 (((160 : Int32) * (σ.1 0 3)) + l1).toNatClampNeg (σ.1 3 l1.toNatClampNeg) → ∀ x10 : Int32, x10 = l1 + (1 : Int32) → P14 s9 x10)) → P14 σ l1) → P14 σ l1
def wX5_text (σ : kS) (Q : Int32 → kS → Prop) : Prop :=
  ((σ.1 0 3) ≠ (6 : Int32) → wX5_text_14 Q (0 : Int32) σ) ∧ ((σ.1 0 3) = (6 : Int32) → Q (-4 : Int32) σ)
def wX5_force (l1 : Int32) (σ : kS) (Q : Int32 → kS → Prop) : Prop :=
  wX5_in l1.toInt64 (0 : Int64) (((σ.1 0 3) - (1 : Int32)).toInt64) (fun r1 => (r1 ≠ 0 → ∀ x3 : Int32, x3 = σ.1 0 4 → ∀ s4 : kS, s4 = kset σ 0 4 l1 → Q x3 s4) ∧ (r1 = 0 → Q (-2 : Int32) σ))
def wX5_standOn_4 (Q : Int32 → kS → Prop) (l1 : Int32) (l2 : Int32) (l3 : Int32) (σ : kS) : Prop :=
  ∀ P4 : Int32 → Int32 → Prop, (∀ (l2 : Int32) (l3 : Int32), (((σ.1 0 13) ≤ l3 → Q l2 σ) ∧ (¬ (σ.1 0 13) ≤ l3 → vp_in (((3 : Int32) * l3) + (1 : Int32)) 18 ∧ ((σ.1 6 (((3 : Int32) * l3) + (1 : Int32)).toNatClampNeg) ≠ l1 → ∀ x3 : Int32, x3 = l2 + (0 : Int32) → ∀ x4 : Int32, x4 = l3 + (1 : Int32) → P4 x3 x4) ∧ ((σ.1 6 (((3 : Int32) * l3) + (1 : Int32)).toNatClampNeg) = l1 → ∀ x5 : Int32, x5 = l2 + (1 : Int32) → ∀ x6 : Int32, x6 = l3 + (1 : Int32) → P4 x5 x6))) → P4 l2 l3) → P4 l2 l3
def wX5_standOn (l1 : Int32) (σ : kS) (Q : Int32 → kS → Prop) : Prop :=
  wX5_standOn_4 Q l1 (0 : Int32) (0 : Int32) σ
def wX5_asks (l1 : Int32) (l2 : Int32) (σ : kS) (Q : Int32 → kS → Prop) : Prop :=
  wX5_in l1.toInt64 (0 : Int64) (1 : Int64) (fun r1 => (r1 = 0 → Q (-2 : Int32) σ) ∧ (¬ r1 = 0 → wX5_isCell l2 (fun r3 => (r3 = 0 → Q (-2 : Int32) σ) ∧ (¬ r3 = 0 → wX5_standOn l2 σ (fun r6 s5 => wX5_says l1 l2 r6 s5 (fun r8 s7 => Q r8 s7))))))
def wX5_isHeld_2 (Q : Int32 → kS → Prop) (l1 : Int32) (l2 : Int32) (σ : kS) : Prop :=
  ∀ P2 : Int32 → Prop, (∀ (l2 : Int32), (((σ.1 0 13) ≤ l2 → Q (0 : Int32) σ) ∧ (¬ (σ.1 0 13) ≤ l2 → vp_in l2 6 ∧ ((σ.1 5 l2.toNatClampNeg) ≠ (5 : Int32) → ∀ x3 : Int32, x3 = l2 + (1 : Int32) → P2 x3) ∧ ((σ.1 5 l2.toNatClampNeg) = (5 : Int32) → vp_in (((3 : Int32) * l2) + (2 : Int32)) 18 ∧ ((σ.1 6 (((3 : Int32) * l2) + (2 : Int32)).toNatClampNeg) ≠ (1 : Int32) → ∀ x5 : Int32, x5 = l2 + (1 : Int32) → P2 x5) ∧ ((σ.1 6 (((3 : Int32) * l2) + (2 : Int32)).toNatClampNeg) = (1 : Int32) → vp_in (((3 : Int32) * l2) + (1 : Int32)) 18 ∧ ((σ.1 6 (((3 : Int32) * l2) + (1 : Int32)).toNatClampNeg) ≠ l1 → ∀ x7 : Int32, x7 = l2 + (1 : Int32) → P2 x7) ∧ ((σ.1 6 (((3 : Int32) * l2) + (1 : Int32)).toNatClampNeg) = l1 → Q (1 : Int32) σ))))) → P2 l2) → P2 l2
def wX5_isHeld (l1 : Int32) (σ : kS) (Q : Int32 → kS → Prop) : Prop :=
  wX5_isHeld_2 Q l1 (0 : Int32) σ
def wX5_levelOf (l1 : Int32) (σ : kS) (Q : Int32 → kS → Prop) : Prop :=
  vp_in ((3 : Int32) * l1) 36 ∧ vp_in (((3 : Int32) * l1) + (2 : Int32)) 36 ∧ Q ((σ.1 4 ((3 : Int32) * l1).toNatClampNeg) + (σ.1 4 (((3 : Int32) * l1) + (2 : Int32)).toNatClampNeg)) σ
def wX5_adds (l1 : Int32) (l2 : Int32) (σ : kS) (Q : kS → Prop) : Prop :=
  vp_in (((3 : Int32) * l1) + (2 : Int32)) 36 ∧ wX5_within ((σ.1 4 (((3 : Int32) * l1) + (2 : Int32)).toNatClampNeg) + l2) (0 : Int32) (999 : Int32) (fun r1 => vp_in (((3 : Int32) * l1) + (2 : Int32)) 36 ∧ ∀ s2 : kS, s2 = kset σ 4 (((3 : Int32) * l1) + (2 : Int32)).toNatClampNeg r1 → Q s2)
def wX5_draws (l1 : Int32) (l2 : Int32) (σ : kS) (Q : kS → Prop) : Prop :=
  wX5_isCell l2 (fun r1 => (r1 = 0 → Q σ) ∧ (¬ r1 = 0 → vp_in (((3 : Int32) * l2) + (2 : Int32)) 36 ∧ wX5_drawsOf l1 l2 σ (fun r4 s3 => vp_in (((3 : Int32) * l2) + (2 : Int32)) 36 ∧ ∀ s5 : kS, s5 = kset s3 4 (((3 : Int32) * l2) + (2 : Int32)).toNatClampNeg ((σ.1 4 (((3 : Int32) * l2) + (2 : Int32)).toNatClampNeg) - r4) → Q s5)))
def wX5_lives_97 (Q : kS → Prop) (P33 : kS → Int32 → Prop) (l1 : Int32) (ks0 : Int32) (σ : kS) : Prop :=
  wX5_adds l1 (-ks0) σ (fun s38 => wX5_adds (l1 - (1 : Int32)) ks0 s38 (fun s39 => ∀ x40 : Int32, x40 = l1 + (-1 : Int32) → P33 s39 x40))
def wX5_lives_261 (Q : kS → Prop) (P186 : kS → Int32 → Prop) (l2 : Int32) (σ : kS) : Prop :=
  wX5_costsOf l2 σ (fun r53 s52 => ∀ s54 : kS, s54 = kset s52 0 9 ((σ.1 0 9) + r53) → ∀ x55 : Int32, x55 = l2 + (1 : Int32) → P186 s54 x55)
def wX5_lives_245 (Q : kS → Prop) (P186 : kS → Int32 → Prop) (l2 : Int32) (l3 : Int32) (σ : kS) : Prop :=
  wX5_draws l2 (l3 - (1 : Int32)) σ (fun s50 => wX5_draws l2 (l3 + (1 : Int32)) s50 (fun s51 => wX5_lives_261 Q P186 l2 s51))
def wX5_lives_370 (Q : kS → Prop) (P283 : kS → Int32 → Prop) (l2 : Int32) (ks0 : Int32) (σ : kS) : Prop :=
  vp_in ((3 : Int32) * l2) 36 ∧ vp_in ((3 : Int32) * l2) 36 ∧ ∀ s57 : kS, s57 = kset σ 4 ((3 : Int32) * l2).toNatClampNeg ((σ.1 4 ((3 : Int32) * l2).toNatClampNeg) - ks0) → vp_in (((3 : Int32) * l2) + (1 : Int32)) 36 ∧ vp_in (((3 : Int32) * l2) + (1 : Int32)) 36 ∧ ∀ s58 : kS, s58 = kset s57 4 (((3 : Int32) * l2) + (1 : Int32)).toNatClampNeg ((s57.1 4 (((3 : Int32) * l2) + (1 : Int32)).toNatClampNeg) - ks0) → ∀ x59 : Int32, x59 = l2 + (1 : Int32) → P283 s58 x59
def wX5_lives_356 (Q : kS → Prop) (P283 : kS → Int32 → Prop) (l2 : Int32) (l3 : Int32) (ks0 : Int32) (σ : kS) : Prop :=
  (ks0 ≤ l3 → wX5_lives_370 Q P283 l2 ks0 σ) ∧ (¬ ks0 ≤ l3 → wX5_lives_370 Q P283 l2 l3 σ)
def wX5_lives_283 (Q : kS → Prop) (l2 : Int32) (σ : kS) : Prop :=
  ∀ P283 : kS → Int32 → Prop, (∀ (σ : kS) (l2 : Int32), (((12 : Int32) ≤ l2 → ∀ s42 : kS, s42 = kset σ 0 8 ((σ.1 0 8) + (1 : Int32)) → Q s42) ∧ (¬ (12 : Int32) ≤ l2 → vp_in (((3 : Int32) * l2) + (2 : Int32)) 36 ∧ ((σ.1 4 (((3 : Int32) * l2) + (2 : Int32)).toNatClampNeg) ≠ 0 → ∀ x44 : Int32, x44 = l2 + (1 : Int32) → P283 σ x44) ∧ ((σ.1 4 (((3 : Int32) * l2) + (2 : Int32)).toNatClampNeg) = 0 → wX5_standOn l2 σ (fun r46 s45 => wX5_says (1 : Int32) l2 r46 s45 (fun r48 s47 => vp_in ((3 : Int32) * l2) 36 ∧ vp_in (((3 : Int32) * l2) + (1 : Int32)) 36 ∧ ((s47.1 4 (((3 : Int32) * l2) + (1 : Int32)).toNatClampNeg) ≤ (s47.1 4 ((3 : Int32) * l2).toNatClampNeg) → vp_in (((3 : Int32) * l2) + (1 : Int32)) 36 ∧ wX5_lives_356 Q P283 l2 r48 (s47.1 4 (((3 : Int32) * l2) + (1 : Int32)).toNatClampNeg) s47) ∧ (¬ (s47.1 4 (((3 : Int32) * l2) + (1 : Int32)).toNatClampNeg) ≤ (s47.1 4 ((3 : Int32) * l2).toNatClampNeg) → vp_in ((3 : Int32) * l2) 36 ∧ wX5_lives_356 Q P283 l2 r48 (s47.1 4 ((3 : Int32) * l2).toNatClampNeg) s47)))))) → P283 σ l2) → P283 σ l2
def wX5_lives_186 (Q : kS → Prop) (l2 : Int32) (σ : kS) : Prop :=
  ∀ P186 : kS → Int32 → Prop, (∀ (σ : kS) (l2 : Int32), (((σ.1 0 13) ≤ l2 → wX5_lives_283 Q (0 : Int32) σ) ∧ (¬ (σ.1 0 13) ≤ l2 → vp_in (((3 : Int32) * l2) + (2 : Int32)) 18 ∧ ((σ.1 6 (((3 : Int32) * l2) + (2 : Int32)).toNatClampNeg) ≠ (1 : Int32) → ∀ x32 : Int32, x32 = l2 + (1 : Int32) → P186 σ x32) ∧ ((σ.1 6 (((3 : Int32) * l2) + (2 : Int32)).toNatClampNeg) = (1 : Int32) → vp_in (((3 : Int32) * l2) + (1 : Int32)) 18 ∧ ∀ x33 : Int32, x33 = σ.1 6 (((3 : Int32) * l2) + (1 : Int32)).toNatClampNeg → wX5_draws l2 x33 σ (fun s34 => vp_in l2 6 ∧ ((s34.1 5 l2.toNatClampNeg) = (1 : Int32) → wX5_lives_245 Q P186 l2 x33 s34) ∧ (¬ (s34.1 5 l2.toNatClampNeg) = (1 : Int32) → vp_in l2 6 ∧ ((s34.1 5 l2.toNatClampNeg) ≠ (4 : Int32) → wX5_lives_261 Q P186 l2 s34) ∧ ((s34.1 5 l2.toNatClampNeg) = (4 : Int32) → wX5_lives_245 Q P186 l2 x33 s34)))))) → P186 σ l2) → P186 σ l2
def wX5_lives_160 (Q : kS → Prop) (ks0 : Int32) (ks1 : Int32) (σ : kS) : Prop :=
  wX5_adds ks1 (-ks0) σ (fun s37 => wX5_lives_186 Q (0 : Int32) s37)
def wX5_lives_33 (Q : kS → Prop) (l1 : Int32) (σ : kS) : Prop :=
  ∀ P33 : kS → Int32 → Prop, (∀ (σ : kS) (l1 : Int32), ((l1 ≤ 0 → wX5_levelOf (0 : Int32) σ (fun r10 s9 => ∀ x11 : Int32, x11 = r10 - (s9.1 0 7) → (x11 ≤ 0 → wX5_isHeld (0 : Int32) s9 (fun r14 s13 => (r14 ≠ 0 → wX5_lives_186 Q (0 : Int32) s13) ∧ (r14 = 0 → wX5_adds (0 : Int32) ((-x11) / (2 : Int32)) s13 (fun s16 => wX5_lives_186 Q (0 : Int32) s16)))) ∧ (¬ x11 ≤ 0 → ((s9.1 4 (2 : Int32).toNatClampNeg) ≤ (x11 / (2 : Int32)) → wX5_lives_160 Q (s9.1 4 (2 : Int32).toNatClampNeg) (0 : Int32) s9) ∧ (¬ (s9.1 4 (2 : Int32).toNatClampNeg) ≤ (x11 / (2 : Int32)) → wX5_lives_160 Q (x11 / (2 : Int32)) (0 : Int32) s9)))) ∧ (¬ l1 ≤ 0 → wX5_levelOf l1 σ (fun r19 s18 => wX5_levelOf (l1 - (1 : Int32)) s18 (fun r21 s20 => ∀ x22 : Int32, x22 = r19 - r21 → (x22 ≤ 0 → ∀ x24 : Int32, x24 = l1 + (-1 : Int32) → P33 s20 x24) ∧ (¬ x22 ≤ 0 → wX5_isHeld (l1 - (1 : Int32)) s20 (fun r26 s25 => (r26 ≠ 0 → ∀ x28 : Int32, x28 = l1 + (-1 : Int32) → P33 s25 x28) ∧ (r26 = 0 → vp_in (((3 : Int32) * l1) + (2 : Int32)) 36 ∧ ((s25.1 4 (((3 : Int32) * l1) + (2 : Int32)).toNatClampNeg) ≤ (x22 / (2 : Int32)) → vp_in (((3 : Int32) * l1) + (2 : Int32)) 36 ∧ wX5_lives_97 Q P33 l1 (s25.1 4 (((3 : Int32) * l1) + (2 : Int32)).toNatClampNeg) s25) ∧ (¬ (s25.1 4 (((3 : Int32) * l1) + (2 : Int32)).toNatClampNeg) ≤ (x22 / (2 : Int32)) → wX5_lives_97 Q P33 l1 (x22 / (2 : Int32)) s25)))))))) → P33 σ l1) → P33 σ l1
def wX5_lives_2 (Q : kS → Prop) (l1 : Int32) (σ : kS) : Prop :=
  ∀ P2 : kS → Int32 → Prop, (∀ (σ : kS) (l1 : Int32), (((12 : Int32) ≤ l1 → wX5_lives_33 Q (11 : Int32) σ) ∧ (¬ (12 : Int32) ≤ l1 → wX5_standOn l1 σ (fun r3 s2 => wX5_says (0 : Int32) l1 r3 s2 (fun r5 s4 => wX5_adds l1 r5 s4 (fun s6 => ∀ x7 : Int32, x7 = l1 + (1 : Int32) → P2 s6 x7))))) → P2 σ l1) → P2 σ l1
def wX5_lives (σ : kS) (Q : kS → Prop) : Prop :=
  wX5_lives_2 Q (0 : Int32) σ
def wX5_drySet_4 (Q : Int32 → kS → Prop) (l1 : Int32) (l2 : Int32) (σ : kS) : Prop :=
  ∀ P4 : Int32 → Int32 → Prop, (∀ (l1 : Int32) (l2 : Int32), (((12 : Int32) ≤ l2 → Q l1 σ) ∧ (¬ (12 : Int32) ≤ l2 → vp_in (((3 : Int32) * l2) + (2 : Int32)) 36 ∧ ((σ.1 4 (((3 : Int32) * l2) + (2 : Int32)).toNatClampNeg) ≠ 0 → ∀ x3 : Int32, x3 = l1 ||| (kshl (0 : Int32) l2) → ∀ x4 : Int32, x4 = l2 + (1 : Int32) → P4 x3 x4) ∧ ((σ.1 4 (((3 : Int32) * l2) + (2 : Int32)).toNatClampNeg) = 0 → ∀ x5 : Int32, x5 = l1 ||| (kshl (1 : Int32) l2) → ∀ x6 : Int32, x6 = l2 + (1 : Int32) → P4 x5 x6))) → P4 l1 l2) → P4 l1 l2
def wX5_drySet (σ : kS) (Q : Int32 → kS → Prop) : Prop :=
  wX5_drySet_4 Q (0 : Int32) (0 : Int32) σ
def wX5_bitsOf_4 (Q : Int32 → Prop) (l1 : Int32) (l2 : Int32) : Prop :=
  ∀ P4 : Int32 → Int32 → Prop, (∀ (l1 : Int32) (l2 : Int32), ((l2 = 0 → Q l1) ∧ (¬ l2 = 0 → ∀ x2 : Int32, x2 = l1 + (1 : Int32) → ∀ x3 : Int32, x3 = l2 &&& (l2 - (1 : Int32)) → P4 x2 x3)) → P4 l1 l2) → P4 l1 l2
def wX5_bitsOf (l0 : Int32) (Q : Int32 → Prop) : Prop :=
  wX5_bitsOf_4 Q (0 : Int32) l0
def wX5_year (σ : kS) (Q : Int32 → kS → Prop) : Prop :=
  ((σ.1 0 8) ≠ (999 : Int32) → wX5_lives σ (fun s2 => wX5_drySet s2 (fun r4 s3 => wX5_bitsOf r4 (fun r5 => Q r5 s3)))) ∧ ((σ.1 0 8) = (999 : Int32) → Q (-3 : Int32) σ)
def wX5_runs_100 (Q : kS → Prop) (P48 : kS → Int32 → Int32 → Prop) (l1 : Int32) (l2 : Int32) (l4 : Int32) (l5 : Int32) (l6 : Int32) (l7 : Int32) (σ : kS) : Prop :=
  wX5_lives σ (fun s22 => wX5_drySet s22 (fun r24 s23 => vp_in l7 31 ∧ ∀ s25 : kS, s25 = kset s23 9 l7.toNatClampNeg r24 → ∀ x26 : Int32, x26 = l7 + (1 : Int32) → P48 s25 l6 x26))
def wX5_runs_69 (Q : kS → Prop) (P48 : kS → Int32 → Int32 → Prop) (l1 : Int32) (l2 : Int32) (l4 : Int32) (l5 : Int32) (l6 : Int32) (l7 : Int32) (l8 : Int32) (σ : kS) : Prop :=
  ∀ P69 : kS → Int32 → Prop, (∀ (σ : kS) (l8 : Int32), (((12 : Int32) ≤ l8 → wX5_runs_100 Q P48 l1 l2 l4 l5 l6 l7 σ) ∧ (¬ (12 : Int32) ≤ l8 → (l2 = 0 → wX5_runs_100 Q P48 l1 l2 l4 l5 l6 l7 σ) ∧ (¬ l2 = 0 → wX5_adds l8 (krem (kushr l6 (9 : Int32)) (10 : Int32)) σ (fun s20 => ∀ x21 : Int32, x21 = l8 + (1 : Int32) → P69 s20 x21)))) → P69 σ l8) → P69 σ l8
def wX5_runs_143 (Q : kS → Prop) (l4 : Int32) (l5 : Int32) (l7 : Int32) (σ : kS) : Prop :=
  ∀ P143 : kS → Int32 → Prop, (∀ (σ : kS) (l7 : Int32), (((36 : Int32) ≤ l7 → ∀ s13 : kS, s13 = kset σ 0 8 l4 → ∀ s14 : kS, s14 = kset s13 0 9 l5 → Q s14) ∧ (¬ (36 : Int32) ≤ l7 → vp_in l7 36 ∧ vp_in l7 36 ∧ ∀ s15 : kS, s15 = kset σ 8 l7.toNatClampNeg (σ.1 4 l7.toNatClampNeg) → vp_in l7 36 ∧ vp_in l7 36 ∧ ∀ s16 : kS, s16 = kset s15 4 l7.toNatClampNeg (s15.1 7 l7.toNatClampNeg) → ∀ x17 : Int32, x17 = l7 + (1 : Int32) → P143 s16 x17)) → P143 σ l7) → P143 σ l7
def wX5_runs_48 (Q : kS → Prop) (l1 : Int32) (l2 : Int32) (l4 : Int32) (l5 : Int32) (l6 : Int32) (l7 : Int32) (σ : kS) : Prop :=
  ∀ P48 : kS → Int32 → Int32 → Prop, (∀ (σ : kS) (l6 : Int32) (l7 : Int32), ((l1 ≤ l7 → wX5_drySet σ (fun r8 s7 => ∀ s9 : kS, s9 = kset s7 0 33 r8 → ∀ s10 : kS, s10 = kset s9 0 32 ((s9.1 0 9) - l5) → wX5_runs_143 Q l4 l5 (0 : Int32) s10)) ∧ (¬ l1 ≤ l7 → ∀ x11 : Int32, x11 = (l6 * (1103515245 : Int32)) + (12345 : Int32) → wX5_runs_69 Q P48 l1 l2 l4 l5 x11 l7 (0 : Int32) σ)) → P48 σ l6 l7) → P48 σ l6 l7
def wX5_runs_18 (Q : kS → Prop) (l1 : Int32) (l2 : Int32) (l4 : Int32) (l5 : Int32) (l6 : Int32) (l7 : Int32) (σ : kS) : Prop :=
  ∀ P18 : kS → Int32 → Prop, (∀ (σ : kS) (l7 : Int32), (((36 : Int32) ≤ l7 → wX5_runs_48 Q l1 l2 l4 l5 l6 (0 : Int32) σ) ∧ (¬ (36 : Int32) ≤ l7 → vp_in l7 36 ∧ vp_in l7 36 ∧ ∀ s4 : kS, s4 = kset σ 7 l7.toNatClampNeg (σ.1 4 l7.toNatClampNeg) → ∀ x5 : Int32, x5 = l7 + (1 : Int32) → P18 s4 x5)) → P18 σ l7) → P18 σ l7
def wX5_runs (l1 : Int32) (l2 : Int32) (l3 : Int32) (σ : kS) (Q : kS → Prop) : Prop :=
  ∀ x1 : Int32, x1 = σ.1 0 8 → ∀ x2 : Int32, x2 = σ.1 0 9 → wX5_runs_18 Q l1 l2 x1 x2 l3 (0 : Int32) σ
def wX5_dryBehind (l1 : Int32) (σ : kS) (Q : Int32 → kS → Prop) : Prop :=
  wX5_runs l1 (0 : Int32) (0 : Int32) σ (fun s1 => Q (s1.1 0 33) s1)
def wX5_judged_4 (Q : Int32 → kS → Prop) (l1 : Int32) (l2 : Int32) (l3 : Int32) (σ : kS) : Prop :=
  ∀ P4 : Int32 → Int32 → Prop, (∀ (l2 : Int32) (l3 : Int32), ((l1 ≤ l3 → Q l2 σ) ∧ (¬ l1 ≤ l3 → (l2 = (-1 : Int32) → ∀ x3 : Int32, x3 = l3 + (1 : Int32) → P4 l3 x3) ∧ (¬ l2 = (-1 : Int32) → vp_in l3 31 ∧ wX5_bitsOf (σ.1 9 l3.toNatClampNeg) (fun r4 => vp_in l2 31 ∧ wX5_bitsOf (σ.1 9 l2.toNatClampNeg) (fun r5 => (r4 ≤ r5 → ∀ x7 : Int32, x7 = l3 + (1 : Int32) → P4 l2 x7) ∧ (¬ r4 ≤ r5 → ∀ x8 : Int32, x8 = l3 + (1 : Int32) → P4 l3 x8)))))) → P4 l2 l3) → P4 l2 l3
def wX5_judged (l1 : Int32) (σ : kS) (Q : Int32 → kS → Prop) : Prop :=
  wX5_judged_4 Q l1 (-1 : Int32) (0 : Int32) σ
def wX5_kept_37 (Q : Int32 → kS → Prop) (P7 : Int32 → Int32 → Int32 → Prop) (l1 : Int32) (l2 : Int32) (l4 : Int32) (l5 : Int32) (ks0 : Int32) (ks1 : Int32) (σ : kS) : Prop :=
  ∀ x4 : Int32, x4 = ks1 + ks0 → (l5 ≤ l2 → ∀ x6 : Int32, x6 = l4 + (1 : Int32) → P7 l2 x4 x6) ∧ (¬ l5 ≤ l2 → ∀ x7 : Int32, x7 = l4 + (1 : Int32) → P7 l5 x4 x7)
def wX5_kept_7 (Q : Int32 → kS → Prop) (l1 : Int32) (l2 : Int32) (l3 : Int32) (l4 : Int32) (σ : kS) : Prop :=
  ∀ P7 : Int32 → Int32 → Int32 → Prop, (∀ (l2 : Int32) (l3 : Int32) (l4 : Int32), ((l1 ≤ l4 → Q l3 σ) ∧ (¬ l1 ≤ l4 → vp_in l4 31 ∧ wX5_bitsOf (σ.1 9 l4.toNatClampNeg) (fun r2 => (r2 < l2 → wX5_kept_37 Q P7 l1 l2 l4 r2 (0 : Int32) l3 σ) ∧ (¬ r2 < l2 → wX5_kept_37 Q P7 l1 l2 l4 r2 (1 : Int32) l3 σ)))) → P7 l2 l3 l4) → P7 l2 l3 l4
def wX5_kept (l1 : Int32) (σ : kS) (Q : Int32 → kS → Prop) : Prop :=
  wX5_kept_7 Q l1 (0 : Int32) (0 : Int32) (0 : Int32) σ
def wX5_run_47 (Q : Int32 → kS → Prop) (l1 : Int32) (l2 : Int32) (ks0 : Int32) (σ : kS) : Prop :=
  wX5_in l1.toInt64 (0 : Int64) (30 : Int64) (fun r7 => (r7 = 0 → Q (-2 : Int32) σ) ∧ (¬ r7 = 0 → (ks0 ≠ 0 → wX5_runs l1 (0 : Int32) (0 : Int32) σ (fun s10 => (l2 ≤ (4 : Int32) → ((2 : Int32) ≤ l2 → wX5_judged l1 s10 (fun r14 s13 => (l2 ≠ (2 : Int32) → (l2 ≠ (4 : Int32) → (r14 ≠ (-1 : Int32) → vp_in r14 31 ∧ wX5_bitsOf (s13.1 9 r14.toNatClampNeg) (fun r18 => Q r18 s13)) ∧ (r14 = (-1 : Int32) → Q (-1 : Int32) s13)) ∧ (l2 = (4 : Int32) → wX5_kept l1 s13 (fun r20 s19 => Q r20 s19))) ∧ (l2 = (2 : Int32) → Q r14 s13))) ∧ (¬ (2 : Int32) ≤ l2 → (l2 ≠ 0 → Q (s10.1 0 32) s10) ∧ (l2 = 0 → Q (s10.1 0 33) s10))) ∧ (¬ l2 ≤ (4 : Int32) → vp_in ((((3 : Int32) * (krem l2 (100 : Int32))) + (l2 / (100 : Int32))) - (1 : Int32)) 36 ∧ Q (s10.1 8 ((((3 : Int32) * (krem l2 (100 : Int32))) + (l2 / (100 : Int32))) - (1 : Int32)).toNatClampNeg) s10))) ∧ (ks0 = 0 → Q (-2 : Int32) σ)))
def wX5_run_42 (Q : Int32 → kS → Prop) (l1 : Int32) (l2 : Int32) (σ : kS) : Prop :=
  wX5_run_47 Q l1 l2 (1 : Int32) σ
def wX5_run_46 (Q : Int32 → kS → Prop) (l1 : Int32) (l2 : Int32) (σ : kS) : Prop :=
  wX5_run_47 Q l1 l2 (0 : Int32) σ
def wX5_run (l1 : Int32) (l2 : Int32) (σ : kS) (Q : Int32 → kS → Prop) : Prop :=
  wX5_in l2.toInt64 (0 : Int64) (4 : Int64) (fun r1 => (r1 ≠ 0 → wX5_run_42 Q l1 l2 σ) ∧ (r1 = 0 → wX5_in ((l2 / (100 : Int32)).toInt64) (1 : Int64) (3 : Int64) (fun r3 => (r3 = 0 → wX5_run_46 Q l1 l2 σ) ∧ (¬ r3 = 0 → wX5_in ((krem l2 (100 : Int32)).toInt64) (0 : Int64) (11 : Int64) (fun r5 => (r5 = 0 → wX5_run_46 Q l1 l2 σ) ∧ (¬ r5 = 0 → wX5_run_42 Q l1 l2 σ))))))
def wX5_first_36 (Q : Int32 → kS → Prop) (l1 : Int32) (l2 : Int32) (l3 : Int32) (σ : kS) : Prop :=
  ∀ P36 : Int32 → Prop, (∀ (l3 : Int32), ((l1 ≤ l3 → Q (-1 : Int32) σ) ∧ (¬ l1 ≤ l3 → vp_in l3 31 ∧ wX5_bitsOf (σ.1 9 l3.toNatClampNeg) (fun r7 => (r7 < l2 → ∀ x9 : Int32, x9 = l3 + (1 : Int32) → P36 x9) ∧ (¬ r7 < l2 → Q l3 σ)))) → P36 l3) → P36 l3
def wX5_first (l1 : Int32) (l2 : Int32) (σ : kS) (Q : Int32 → kS → Prop) : Prop :=
  wX5_in l1.toInt64 (0 : Int64) (30 : Int64) (fun r1 => (r1 = 0 → Q (-2 : Int32) σ) ∧ (¬ r1 = 0 → wX5_in l2.toInt64 (1 : Int64) (12 : Int64) (fun r3 => (r3 ≠ 0 → wX5_runs l1 (0 : Int32) (0 : Int32) σ (fun s5 => wX5_first_36 Q l1 l2 (0 : Int32) s5)) ∧ (r3 = 0 → Q (-2 : Int32) σ))))
def wX5_where_58 (Q : Int32 → kS → Prop) (l1 : Int32) (l2 : Int32) (l3 : Int32) (l4 : Int32) (l5 : Int32) (l6 : Int32) (σ : kS) : Prop :=
  ∀ P58 : kS → Int32 → Int32 → Int32 → Prop, (∀ (σ : kS) (l4 : Int32) (l5 : Int32) (l6 : Int32), (((12 : Int32) ≤ l6 → (l3 ≠ 0 → Q l5 σ) ∧ (l3 = 0 → Q l4 σ)) ∧ (¬ (12 : Int32) ≤ l6 → wX5_comes (l1 / (10 : Int32)) (krem l1 (10 : Int32)) l6 σ (fun s10 => wX5_dryBehind l2 s10 (fun r12 s11 => wX5_bitsOf r12 (fun r13 => ∀ s14 : kS, s14 = kset s11 0 13 ((s11.1 0 13) - (1 : Int32)) → (r13 ≤ l5 → ∀ x16 : Int32, x16 = l6 + (1 : Int32) → P58 s14 l4 l5 x16) ∧ (¬ r13 ≤ l5 → ∀ x17 : Int32, x17 = l6 + (1 : Int32) → P58 s14 l6 r13 x17)))))) → P58 σ l4 l5 l6) → P58 σ l4 l5 l6
def wX5_where (l1 : Int32) (l2 : Int32) (l3 : Int32) (σ : kS) (Q : Int32 → kS → Prop) : Prop :=
  wX5_in l1.toInt64 (0 : Int64) (59 : Int64) (fun r1 => (r1 = 0 → Q (-2 : Int32) σ) ∧ (¬ r1 = 0 → wX5_in l2.toInt64 (0 : Int64) (30 : Int64) (fun r3 => (r3 = 0 → Q (-2 : Int32) σ) ∧ (¬ r3 = 0 → wX5_in l3.toInt64 (0 : Int64) (1 : Int64) (fun r5 => (r5 ≠ 0 → ((σ.1 0 13) ≠ (6 : Int32) → wX5_where_58 Q l1 l2 l3 (-1 : Int32) (-1 : Int32) (0 : Int32) σ) ∧ ((σ.1 0 13) = (6 : Int32) → Q (-4 : Int32) σ)) ∧ (r5 = 0 → Q (-2 : Int32) σ))))))
def wX5_dryWithout (l1 : Int32) (l2 : Int32) (σ : kS) (Q : Int32 → kS → Prop) : Prop :=
  vp_in (((3 : Int32) * l1) + (2 : Int32)) 18 ∧ ∀ x1 : Int32, x1 = σ.1 6 (((3 : Int32) * l1) + (2 : Int32)).toNatClampNeg → vp_in (((3 : Int32) * l1) + (2 : Int32)) 18 ∧ ∀ s2 : kS, s2 = kset σ 6 (((3 : Int32) * l1) + (2 : Int32)).toNatClampNeg (0 : Int32) → wX5_dryBehind l2 s2 (fun r4 s3 => vp_in (((3 : Int32) * l1) + (2 : Int32)) 18 ∧ ∀ s5 : kS, s5 = kset s3 6 (((3 : Int32) * l1) + (2 : Int32)).toNatClampNeg x1 → Q r4 s5)
def wX5_idle_26 (Q : Int32 → kS → Prop) (l1 : Int32) (l2 : Int32) (l3 : Int32) (σ : kS) : Prop :=
  ∀ P26 : kS → Int32 → Prop, (∀ (σ : kS) (l3 : Int32), (((σ.1 0 13) ≤ l3 → Q (-1 : Int32) σ) ∧ (¬ (σ.1 0 13) ≤ l3 → vp_in (((3 : Int32) * l3) + (2 : Int32)) 18 ∧ ((σ.1 6 (((3 : Int32) * l3) + (2 : Int32)).toNatClampNeg) ≠ (1 : Int32) → ∀ x8 : Int32, x8 = l3 + (1 : Int32) → P26 σ x8) ∧ ((σ.1 6 (((3 : Int32) * l3) + (2 : Int32)).toNatClampNeg) = (1 : Int32) → wX5_dryWithout l3 l1 σ (fun r10 s9 => wX5_bitsOf r10 (fun r11 => (r11 < l2 → ∀ x13 : Int32, x13 = l3 + (1 : Int32) → P26 s9 x13) ∧ (¬ r11 < l2 → Q l3 s9)))))) → P26 σ l3) → P26 σ l3
def wX5_idle (l1 : Int32) (σ : kS) (Q : Int32 → kS → Prop) : Prop :=
  wX5_in l1.toInt64 (0 : Int64) (30 : Int64) (fun r1 => (r1 ≠ 0 → wX5_dryBehind l1 σ (fun r4 s3 => wX5_bitsOf r4 (fun r5 => wX5_idle_26 Q l1 r5 (0 : Int32) s3))) ∧ (r1 = 0 → Q (-2 : Int32) σ))
def wX5_low_82 (Q : Int32 → kS → Prop) (l3 : Int32) (l4 : Int32) (σ : kS) : Prop :=
  ∀ s15 : kS, s15 = kset σ 0 7 l3 → Q l4 s15
def wX5_low_39 (Q : Int32 → kS → Prop) (l1 : Int32) (l2 : Int32) (l3 : Int32) (l4 : Int32) (l5 : Int32) (σ : kS) : Prop :=
  ∀ P39 : kS → Int32 → Int32 → Prop, (∀ (σ : kS) (l4 : Int32) (l5 : Int32), ((l5 < 0 → wX5_low_82 Q l3 l4 σ) ∧ (¬ l5 < 0 → (l4 ≠ (-1 : Int32) → wX5_low_82 Q l3 l4 σ) ∧ (l4 = (-1 : Int32) → ∀ s8 : kS, s8 = kset σ 0 7 l5 → wX5_dryBehind l1 s8 (fun r10 s9 => wX5_bitsOf r10 (fun r11 => (r11 < l2 → ∀ x13 : Int32, x13 = l5 + (-1 : Int32) → P39 s9 (-1 : Int32) x13) ∧ (¬ r11 < l2 → ∀ x14 : Int32, x14 = l5 + (-1 : Int32) → P39 s9 l5 x14)))))) → P39 σ l4 l5) → P39 σ l4 l5
def wX5_low (l1 : Int32) (l2 : Int32) (σ : kS) (Q : Int32 → kS → Prop) : Prop :=
  wX5_in l1.toInt64 (0 : Int64) (30 : Int64) (fun r1 => (r1 = 0 → Q (-2 : Int32) σ) ∧ (¬ r1 = 0 → wX5_in l2.toInt64 (1 : Int64) (12 : Int64) (fun r3 => (r3 ≠ 0 → ∀ x5 : Int32, x5 = σ.1 0 7 → wX5_low_39 Q l1 l2 x5 (-1 : Int32) (99 : Int32) σ) ∧ (r3 = 0 → Q (-2 : Int32) σ))))
def wX5_floods (l1 : Int32) (l2 : Int32) (σ : kS) (Q : Int32 → kS → Prop) : Prop :=
  wX5_isWork l1 σ (fun r2 s1 => (r2 = 0 → Q (-2 : Int32) s1) ∧ (¬ r2 = 0 → wX5_in l2.toInt64 (0 : Int64) (30 : Int64) (fun r4 => (r4 ≠ 0 → wX5_dryWithout l1 l2 s1 (fun r7 s6 => wX5_dryBehind l2 s6 (fun r9 s8 => Q (r7 &&& (r9 ^^^ (-1 : Int32))) s8))) ∧ (r4 = 0 → Q (-2 : Int32) s1))))
def wX5_firstOther_14 (Q : Int32 → kS → Prop) (l1 : Int32) (l2 : Int32) (σ : kS) : Prop :=
  ∀ P14 : Int32 → Prop, (∀ (l2 : Int32), (vp_in l1 4 ∧ ((σ.1 14 l1.toNatClampNeg) ≤ l2 → Q (-1 : Int32) σ) ∧ (¬ (σ.1 14 l1.toNatClampNeg) ≤ l2 → vp_in l2 31 ∧ vp_in (((40 : Int32) * l1) + l2) 160 ∧ ((σ.1 9 l2.toNatClampNeg) = (σ.1 15 (((40 : Int32) * l1) + l2).toNatClampNeg) → ∀ x4 : Int32, x4 = l2 + (1 : Int32) → P14 x4) ∧ (¬ (σ.1 9 l2.toNatClampNeg) = (σ.1 15 (((40 : Int32) * l1) + l2).toNatClampNeg) → Q l2 σ))) → P14 l2) → P14 l2
def wX5_firstOther (l1 : Int32) (σ : kS) (Q : Int32 → kS → Prop) : Prop :=
  vp_in l1 4 ∧ wX5_runs (σ.1 14 l1.toNatClampNeg) (0 : Int32) (0 : Int32) σ (fun s1 => wX5_firstOther_14 Q l1 (0 : Int32) s1)
def wX5_isSheet (l0 : Int32) (Q : Int32 → Prop) : Prop :=
  wX5_in l0.toInt64 (0 : Int64) (3 : Int64) (fun r1 => (r1 = 0 ∨ r1 = 1) ∧ Q r1)
def wX5_tells_241 (Q : Int32 → kS → Prop) (P201 : kS → Int32 → Int32 → Int32 → Int32 → Prop) (l1 : Int32) (l2 : Int32) (l3 : Int32) (l4 : Int32) (l5 : Int32) (l6 : Int32) (l8 : Int32) (l10 : Int32) (ks0 : Int32) (ks1 : Int32) (σ : kS) : Prop :=
  ∀ x36 : Int32, x36 = ks1 ||| ks0 → ∀ x37 : Int32, x37 = l8 + (1 : Int32) → ∀ x38 : Int32, x38 = l10 + (1 : Int32) → P201 σ x36 x37 l10 x38
def wX5_tells_201 (Q : Int32 → kS → Prop) (l1 : Int32) (l2 : Int32) (l3 : Int32) (l4 : Int32) (l5 : Int32) (l6 : Int32) (l7 : Int32) (l8 : Int32) (l9 : Int32) (l10 : Int32) (σ : kS) : Prop :=
  ∀ P201 : kS → Int32 → Int32 → Int32 → Int32 → Prop, (∀ (σ : kS) (l7 : Int32) (l8 : Int32) (l9 : Int32) (l10 : Int32), ((l6 < l10 → wX5_lays l4 l3 l5 σ (fun s27 => (l2 ≠ (2 : Int32) → (l2 ≠ (3 : Int32) → Q l7 s27) ∧ (l2 = (3 : Int32) → Q l9 s27)) ∧ (l2 = (2 : Int32) → Q l8 s27))) ∧ (¬ l6 < l10 → wX5_lays l4 l3 l10 σ (fun s30 => wX5_firstOther l1 s30 (fun r32 s31 => (r32 ≠ (-1 : Int32) → ∀ x34 : Int32, x34 = l10 + (1 : Int32) → P201 s31 l7 l8 l9 x34) ∧ (r32 = (-1 : Int32) → (l4 ≠ 0 → wX5_tells_241 Q P201 l1 l2 l3 l4 l5 l6 l8 l10 (kshl (1 : Int32) l10) l7 s31) ∧ (l4 = 0 → wX5_tells_241 Q P201 l1 l2 l3 l4 l5 l6 l8 l10 (0 : Int32) l7 s31)))))) → P201 σ l7 l8 l9 l10) → P201 σ l7 l8 l9 l10
def wX5_tells_187 (Q : Int32 → kS → Prop) (l1 : Int32) (l2 : Int32) (l3 : Int32) (l4 : Int32) (l5 : Int32) (ks0 : Int32) (σ : kS) : Prop :=
  wX5_tells_201 Q l1 l2 l3 l4 l5 ks0 (0 : Int32) (0 : Int32) (-1 : Int32) (0 : Int32) σ
def wX5_tells_153 (Q : Int32 → kS → Prop) (l1 : Int32) (l2 : Int32) (l3 : Int32) (l4 : Int32) (ks0 : Int32) (σ : kS) : Prop :=
  (l4 ≠ (9 : Int32) → (l4 ≠ (8 : Int32) → wX5_mostOf l4 (fun r25 => wX5_tells_187 Q l1 l2 l3 l4 ks0 r25 σ)) ∧ (l4 = (8 : Int32) → wX5_tells_187 Q l1 l2 l3 l4 ks0 (5 : Int32) σ)) ∧ (l4 = (9 : Int32) → wX5_tells_187 Q l1 l2 l3 l4 ks0 ((σ.1 0 3) - (1 : Int32)) σ)
def wX5_tells_130 (Q : Int32 → kS → Prop) (l1 : Int32) (l2 : Int32) (l3 : Int32) (ks0 : Int32) (σ : kS) : Prop :=
  (ks0 ≠ (9 : Int32) → wX5_told l3 ks0 σ (fun r22 s21 => wX5_tells_153 Q l1 l2 l3 ks0 r22 s21)) ∧ (ks0 = (9 : Int32) → wX5_tells_153 Q l1 l2 l3 ks0 (σ.1 0 4) σ)
def wX5_tells_47 (Q : Int32 → kS → Prop) (l1 : Int32) (l2 : Int32) (σ : kS) : Prop :=
  vp_in l1 4 ∧ ((σ.1 12 l1.toNatClampNeg) ≠ 0 → vp_in l1 4 ∧ ((σ.1 14 l1.toNatClampNeg) ≤ (30 : Int32) → (l2 ≠ 0 → ∀ x13 : Int32, x13 = krem l2 (10 : Int32) → (l2 ≠ (1 : Int32) → ((4 : Int32) ≤ l2 → ((20 : Int32) ≤ l2 → ((30 : Int32) ≤ l2 → wX5_tells_130 Q l1 l2 x13 (6 : Int32) σ) ∧ (¬ (30 : Int32) ≤ l2 → wX5_tells_130 Q l1 l2 x13 (5 : Int32) σ)) ∧ (¬ (20 : Int32) ≤ l2 → wX5_tells_130 Q l1 l2 x13 (8 : Int32) σ)) ∧ (¬ (4 : Int32) ≤ l2 → wX5_tells_130 Q l1 l2 x13 (0 : Int32) σ)) ∧ (l2 = (1 : Int32) → wX5_tells_130 Q l1 l2 x13 (9 : Int32) σ)) ∧ (l2 = 0 → wX5_firstOther l1 σ (fun r19 s18 => Q r19 s18))) ∧ (¬ (σ.1 14 l1.toNatClampNeg) ≤ (30 : Int32) → Q (-2 : Int32) σ)) ∧ ((σ.1 12 l1.toNatClampNeg) = 0 → Q (-11 : Int32) σ)
def wX5_tells (l1 : Int32) (l2 : Int32) (σ : kS) (Q : Int32 → kS → Prop) : Prop :=
  wX5_isSheet l1 (fun r1 => (r1 = 0 → Q (-2 : Int32) σ) ∧ (¬ r1 = 0 → wX5_in l2.toInt64 (0 : Int64) (3 : Int64) (fun r3 => (r3 ≠ 0 → wX5_tells_47 Q l1 l2 σ) ∧ (r3 = 0 → wX5_in l2.toInt64 (10 : Int64) (39 : Int64) (fun r5 => (r5 = 0 → Q (-2 : Int32) σ) ∧ (¬ r5 = 0 → wX5_isWork (krem l2 (10 : Int32)) σ (fun r8 s7 => (r8 ≠ 0 → wX5_tells_47 Q l1 l2 s7) ∧ (r8 = 0 → Q (-2 : Int32) s7))))))))
def wX5_sheet_77 (Q : Int32 → kS → Prop) (l1 : Int32) (l2 : Int32) (l3 : Int32) (l4 : Int32) (σ : kS) : Prop :=
  ∀ P77 : kS → Int32 → Prop, (∀ (σ : kS) (l4 : Int32), ((l3 ≤ l4 → Q (1 : Int32) σ) ∧ (¬ l3 ≤ l4 → (l2 < 0 → Q (1 : Int32) σ) ∧ (¬ l2 < 0 → vp_in (((40 : Int32) * l1) + l4) 160 ∧ ∀ s15 : kS, s15 = kset σ 15 (((40 : Int32) * l1) + l4).toNatClampNeg (0 : Int32) → ∀ x16 : Int32, x16 = l4 + (1 : Int32) → P77 s15 x16))) → P77 σ l4) → P77 σ l4
def wX5_sheet_59 (Q : Int32 → kS → Prop) (l1 : Int32) (l2 : Int32) (l3 : Int32) (ks0 : Int32) (ks1 : Int32) (σ : kS) : Prop :=
  vp_in ks1 4 ∧ (ks0 = 0 ∨ ks0 = 1) ∧ ∀ s10 : kS, s10 = kset σ 12 ks1.toNatClampNeg ks0 → vp_in l1 4 ∧ ∀ s11 : kS, s11 = kset s10 13 l1.toNatClampNeg l2 → vp_in l1 4 ∧ ∀ s12 : kS, s12 = kset s11 14 l1.toNatClampNeg l3 → wX5_sheet_77 Q l1 l2 l3 (0 : Int32) s12
def wX5_sheet_45 (Q : Int32 → kS → Prop) (l1 : Int32) (l2 : Int32) (l3 : Int32) (σ : kS) : Prop :=
  (l2 < 0 → wX5_sheet_59 Q l1 l2 l3 (0 : Int32) l1 σ) ∧ (¬ l2 < 0 → wX5_sheet_59 Q l1 l2 l3 (1 : Int32) l1 σ)
def wX5_sheet_34 (Q : Int32 → kS → Prop) (l1 : Int32) (l2 : Int32) (l3 : Int32) (σ : kS) : Prop :=
  (l2 < 0 → wX5_sheet_45 Q l1 l2 l3 σ) ∧ (¬ l2 < 0 → (0 ≤ l3 → wX5_sheet_45 Q l1 l2 l3 σ) ∧ (¬ 0 ≤ l3 → Q (-14 : Int32) σ))
def wX5_sheet (l1 : Int32) (l2 : Int32) (l3 : Int32) (σ : kS) (Q : Int32 → kS → Prop) : Prop :=
  wX5_isSheet l1 (fun r1 => (r1 = 0 → Q (-2 : Int32) σ) ∧ (¬ r1 = 0 → wX5_in l2.toInt64 (-1 : Int64) (2 : Int64) (fun r3 => (r3 = 0 → Q (-2 : Int32) σ) ∧ (¬ r3 = 0 → (l2 < 0 → wX5_sheet_34 Q l1 l2 l3 σ) ∧ (¬ l2 < 0 → (l3 ≤ (40 : Int32) → wX5_sheet_34 Q l1 l2 l3 σ) ∧ (¬ l3 ≤ (40 : Int32) → Q (-2 : Int32) σ))))))
def wX5_film_39 (Q : Int32 → kS → Prop) (l1 : Int32) (l2 : Int32) (l3 : Int32) (σ : kS) : Prop :=
  ∀ P39 : kS → Int32 → Prop, (∀ (σ : kS) (l3 : Int32), ((l2 ≤ l3 → Q l2 σ) ∧ (¬ l2 ≤ l3 → vp_in l3 31 ∧ vp_in (((40 : Int32) * l1) + l3) 160 ∧ ∀ s9 : kS, s9 = kset σ 15 (((40 : Int32) * l1) + l3).toNatClampNeg (σ.1 9 l3.toNatClampNeg) → ∀ x10 : Int32, x10 = l3 + (1 : Int32) → P39 s9 x10)) → P39 σ l3) → P39 σ l3
def wX5_film (l1 : Int32) (l2 : Int32) (σ : kS) (Q : Int32 → kS → Prop) : Prop :=
  wX5_isSheet l1 (fun r1 => (r1 = 0 → Q (-2 : Int32) σ) ∧ (¬ r1 = 0 → wX5_in l2.toInt64 (0 : Int64) (30 : Int64) (fun r3 => (r3 ≠ 0 → wX5_runs l2 (0 : Int32) (0 : Int32) σ (fun s5 => wX5_sheet l1 (1 : Int32) l2 s5 (fun r7 s6 => wX5_film_39 Q l1 l2 (0 : Int32) s6))) ∧ (r3 = 0 → Q (-2 : Int32) σ))))
def wX5_dryBy (l1 : Int32) (l2 : Int32) (σ : kS) (Q : Int32 → kS → Prop) : Prop :=
  wX5_runs l2 (1 : Int32) l1 σ (fun s1 => wX5_bitsOf (s1.1 0 33) (fun r2 => Q r2 s1))
def wX5_drawn (l1 : Int32) (l2 : Int32) (σ : kS) (Q : Int32 → kS → Prop) : Prop :=
  wX5_in l2.toInt64 (0 : Int64) (30 : Int64) (fun r1 => (r1 = 0 → Q (-2 : Int32) σ) ∧ (¬ r1 = 0 → wX5_dryBy l1 l2 σ (fun r4 s3 => Q r4 s3)))
def wX5_chance_103 (Q : Int64 → kS → Prop) (l2 : Int32) (l4 : Int32) (l5 : Int64) (l7 : Int64) (l9 : Int64) (σ : kS) : Prop :=
  ∀ P103 : Int64 → Int64 → Prop, (∀ (l7 : Int64) (l9 : Int64), (((lg_cmp l9 (0 : Int64)) = 0 → (l4 ≠ 0 → (¬ l7 = 0) ∧ Q (l2.toInt64 / l7) σ) ∧ (l4 = 0 → (¬ l7 = 0) ∧ Q (l5 / l7) σ)) ∧ (¬ (lg_cmp l9 (0 : Int64)) = 0 → (¬ l9 = 0) ∧ ∀ x19 : Int64, x19 = klrem l7 l9 → P103 l9 x19)) → P103 l7 l9) → P103 l7 l9
def wX5_chance_54 (Q : Int64 → kS → Prop) (l1 : Int32) (l2 : Int32) (l3 : Int32) (l4 : Int32) (l5 : Int64) (l7 : Int32) (σ : kS) : Prop :=
  ∀ P54 : kS → Int64 → Int32 → Prop, (∀ (σ : kS) (l5 : Int64) (l7 : Int32), ((l2 ≤ l7 → ∀ x9 : Int64, x9 = l2.toInt64 → wX5_chance_103 Q l2 l4 l5 l5 x9 σ) ∧ (¬ l2 ≤ l7 → wX5_dryBy (l1 + l7) (l3 / (100 : Int32)) σ (fun r11 s10 => (r11 < (krem l3 (100 : Int32)) → ∀ x13 : Int64, x13 = l5 + (0 : Int64) → ∀ x14 : Int32, x14 = l7 + (1 : Int32) → P54 s10 x13 x14) ∧ (¬ r11 < (krem l3 (100 : Int32)) → ∀ x15 : Int64, x15 = l5 + (1 : Int64) → ∀ x16 : Int32, x16 = l7 + (1 : Int32) → P54 s10 x15 x16)))) → P54 σ l5 l7) → P54 σ l5 l7
def wX5_chance (l1 : Int32) (l2 : Int32) (l3 : Int32) (l4 : Int32) (σ : kS) (Q : Int64 → kS → Prop) : Prop :=
  wX5_in l2.toInt64 (1 : Int64) (20 : Int64) (fun r1 => (r1 = 0 → Q (-4611686018427387904 : Int64) σ) ∧ (¬ r1 = 0 → wX5_in l3.toInt64 (0 : Int64) (3012 : Int64) (fun r3 => (r3 = 0 → Q (-4611686018427387904 : Int64) σ) ∧ (¬ r3 = 0 → ((12 : Int32) < (krem l3 (100 : Int32)) → Q (-4611686018427387904 : Int64) σ) ∧ (¬ (12 : Int32) < (krem l3 (100 : Int32)) → wX5_in l4.toInt64 (0 : Int64) (1 : Int64) (fun r6 => (r6 ≠ 0 → wX5_chance_54 Q l1 l2 l3 l4 (0 : Int64) (0 : Int32) σ) ∧ (r6 = 0 → Q (-4611686018427387904 : Int64) σ)))))))
def wX5_image_28 (Q : Int32 → kS → Prop) (l1 : Int32) (σ : kS) : Prop :=
  ∀ P28 : kS → Int32 → Prop, (∀ (σ : kS) (l1 : Int32), (((18 : Int32) ≤ l1 → ∀ s5 : kS, s5 = kset σ 0 36 (σ.1 0 13) → ∀ s6 : kS, s6 = kset s5 0 37 (s5.1 0 7) → ∀ s7 : kS, s7 = kset s6 0 38 (s6.1 0 8) → ∀ s8 : kS, s8 = kset s7 0 39 (s7.1 0 9) → ∀ s9 : kS, s9 = kset s8 0 40 (s8.1 0 4) → Q (s9.1 0 13) s9) ∧ (¬ (18 : Int32) ≤ l1 → vp_in l1 18 ∧ vp_in l1 18 ∧ ∀ s10 : kS, s10 = kset σ 11 l1.toNatClampNeg (σ.1 6 l1.toNatClampNeg) → ∀ x11 : Int32, x11 = l1 + (1 : Int32) → P28 s10 x11)) → P28 σ l1) → P28 σ l1
def wX5_image_2 (Q : Int32 → kS → Prop) (l1 : Int32) (σ : kS) : Prop :=
  ∀ P2 : kS → Int32 → Prop, (∀ (σ : kS) (l1 : Int32), (((36 : Int32) ≤ l1 → wX5_image_28 Q (0 : Int32) σ) ∧ (¬ (36 : Int32) ≤ l1 → vp_in l1 36 ∧ vp_in l1 36 ∧ ∀ s2 : kS, s2 = kset σ 10 l1.toNatClampNeg (σ.1 4 l1.toNatClampNeg) → ∀ x3 : Int32, x3 = l1 + (1 : Int32) → P2 s2 x3)) → P2 σ l1) → P2 σ l1
def wX5_image (σ : kS) (Q : Int32 → kS → Prop) : Prop :=
  wX5_image_2 Q (0 : Int32) σ
def wX5_back_39 (Q : Int32 → kS → Prop) (l1 : Int32) (σ : kS) : Prop :=
  ∀ P39 : kS → Int32 → Prop, (∀ (σ : kS) (l1 : Int32), (((18 : Int32) ≤ l1 → ∀ s6 : kS, s6 = kset σ 0 13 (σ.1 0 36) → ∀ s7 : kS, s7 = kset s6 0 7 (s6.1 0 37) → ∀ s8 : kS, s8 = kset s7 0 8 (s7.1 0 38) → ∀ s9 : kS, s9 = kset s8 0 9 (s8.1 0 39) → ∀ s10 : kS, s10 = kset s9 0 4 (s9.1 0 40) → Q (s10.1 0 13) s10) ∧ (¬ (18 : Int32) ≤ l1 → vp_in l1 18 ∧ vp_in l1 18 ∧ ∀ s11 : kS, s11 = kset σ 6 l1.toNatClampNeg (σ.1 11 l1.toNatClampNeg) → ∀ x12 : Int32, x12 = l1 + (1 : Int32) → P39 s11 x12)) → P39 σ l1) → P39 σ l1
def wX5_back_13 (Q : Int32 → kS → Prop) (l1 : Int32) (σ : kS) : Prop :=
  ∀ P13 : kS → Int32 → Prop, (∀ (σ : kS) (l1 : Int32), (((36 : Int32) ≤ l1 → wX5_back_39 Q (0 : Int32) σ) ∧ (¬ (36 : Int32) ≤ l1 → vp_in l1 36 ∧ vp_in l1 36 ∧ ∀ s3 : kS, s3 = kset σ 4 l1.toNatClampNeg (σ.1 10 l1.toNatClampNeg) → ∀ x4 : Int32, x4 = l1 + (1 : Int32) → P13 s3 x4)) → P13 σ l1) → P13 σ l1
def wX5_back (σ : kS) (Q : Int32 → kS → Prop) : Prop :=
  ((σ.1 0 36) ≠ (-1 : Int32) → wX5_back_13 Q (0 : Int32) σ) ∧ ((σ.1 0 36) = (-1 : Int32) → Q (-3 : Int32) σ)
def wX5_count_93 (Q : Int32 → kS → Prop) (l1 : Int32) (l2 : Int32) (l3 : Int32) (σ : kS) : Prop :=
  ∀ P93 : Int32 → Int32 → Prop, (∀ (l2 : Int32) (l3 : Int32), (((σ.1 0 13) ≤ l3 → (l1 ≠ 0 → Q l2 σ) ∧ (l1 = 0 → Q (σ.1 0 13) σ)) ∧ (¬ (σ.1 0 13) ≤ l3 → vp_in (((3 : Int32) * l3) + (2 : Int32)) 18 ∧ ∀ x14 : Int32, x14 = l2 + (σ.1 6 (((3 : Int32) * l3) + (2 : Int32)).toNatClampNeg) → ∀ x15 : Int32, x15 = l3 + (1 : Int32) → P93 x14 x15)) → P93 l2 l3) → P93 l2 l3
def wX5_count (l1 : Int32) (σ : kS) (Q : Int32 → kS → Prop) : Prop :=
  wX5_in l1.toInt64 (0 : Int64) (7 : Int64) (fun r1 => (r1 ≠ 0 → (l1 ≤ (1 : Int32) → wX5_count_93 Q l1 (0 : Int32) (0 : Int32) σ) ∧ (¬ l1 ≤ (1 : Int32) → (l1 ≠ (2 : Int32) → (l1 ≠ (3 : Int32) → (l1 ≠ (4 : Int32) → (l1 ≠ (5 : Int32) → (l1 ≠ (6 : Int32) → Q (σ.1 0 4) σ) ∧ (l1 = (6 : Int32) → Q (σ.1 0 6) σ)) ∧ (l1 = (5 : Int32) → Q (σ.1 0 3) σ)) ∧ (l1 = (4 : Int32) → Q (σ.1 0 9) σ)) ∧ (l1 = (3 : Int32) → Q (σ.1 0 8) σ)) ∧ (l1 = (2 : Int32) → wX5_drySet σ (fun r10 s9 => wX5_bitsOf r10 (fun r11 => Q r11 s9))))) ∧ (r1 = 0 → Q (-2 : Int32) σ))
def wX5_cell_83 (Q : Int32 → kS → Prop) (ks0 : Int32) (ks1 : Int32) (σ : kS) : Prop :=
  vp_in ks1 160 ∧ ∀ s8 : kS, s8 = kset σ 15 ks1.toNatClampNeg ks0 → Q (1 : Int32) s8
def wX5_cell (l1 : Int32) (l2 : Int32) (l3 : Int32) (σ : kS) (Q : Int32 → kS → Prop) : Prop :=
  wX5_isSheet l1 (fun r1 => (r1 ≠ 0 → vp_in l1 4 ∧ ((σ.1 12 l1.toNatClampNeg) ≠ 0 → vp_in l1 4 ∧ wX5_in l2.toInt64 (0 : Int64) (((σ.1 14 l1.toNatClampNeg) - (1 : Int32)).toInt64) (fun r4 => (r4 ≠ 0 → vp_in l1 4 ∧ ((σ.1 13 l1.toNatClampNeg) ≠ 0 → vp_in l1 4 ∧ ((σ.1 13 l1.toNatClampNeg) ≠ (1 : Int32) → wX5_cell_83 Q l3 (((40 : Int32) * l1) + l2) σ) ∧ ((σ.1 13 l1.toNatClampNeg) = (1 : Int32) → wX5_cell_83 Q l3.toInt16.toInt32 (((40 : Int32) * l1) + l2) σ)) ∧ ((σ.1 13 l1.toNatClampNeg) = 0 → wX5_cell_83 Q l3.toInt8.toInt32 (((40 : Int32) * l1) + l2) σ)) ∧ (r4 = 0 → Q (-12 : Int32) σ))) ∧ ((σ.1 12 l1.toNatClampNeg) = 0 → Q (-11 : Int32) σ)) ∧ (r1 = 0 → Q (-2 : Int32) σ))
def wX5_copy_145 (Q : Int32 → kS → Prop) (P121 : kS → Int32 → Prop) (l1 : Int32) (l2 : Int32) (l3 : Int32) (l4 : Int32) (l5 : Int32) (l6 : Int32) (l7 : Int32) (ks0 : Int32) (σ : kS) : Prop :=
  vp_in ((((40 : Int32) * l1) + l2) + ks0) 160 ∧ vp_in ((((40 : Int32) * l3) + l4) + ks0) 160 ∧ ∀ s17 : kS, s17 = kset σ 15 ((((40 : Int32) * l3) + l4) + ks0).toNatClampNeg (σ.1 15 ((((40 : Int32) * l1) + l2) + ks0).toNatClampNeg) → ∀ x18 : Int32, x18 = l7 + (1 : Int32) → P121 s17 x18
def wX5_copy_121 (Q : Int32 → kS → Prop) (l1 : Int32) (l2 : Int32) (l3 : Int32) (l4 : Int32) (l5 : Int32) (l6 : Int32) (l7 : Int32) (σ : kS) : Prop :=
  ∀ P121 : kS → Int32 → Prop, (∀ (σ : kS) (l7 : Int32), ((l5 ≤ l7 → Q l5 σ) ∧ (¬ l5 ≤ l7 → (l6 = 0 → wX5_copy_145 Q P121 l1 l2 l3 l4 l5 l6 l7 l7 σ) ∧ (¬ l6 = 0 → wX5_copy_145 Q P121 l1 l2 l3 l4 l5 l6 l7 ((l5 - (1 : Int32)) - l7) σ))) → P121 σ l7) → P121 σ l7
def wX5_copy (l1 : Int32) (l2 : Int32) (l3 : Int32) (l4 : Int32) (l5 : Int32) (σ : kS) (Q : Int32 → kS → Prop) : Prop :=
  wX5_isSheet l1 (fun r1 => (r1 = 0 → Q (-2 : Int32) σ) ∧ (¬ r1 = 0 → wX5_isSheet l3 (fun r3 => (r3 ≠ 0 → vp_in l1 4 ∧ ((σ.1 12 l1.toNatClampNeg) = 0 → Q (-11 : Int32) σ) ∧ (¬ (σ.1 12 l1.toNatClampNeg) = 0 → vp_in l3 4 ∧ ((σ.1 12 l3.toNatClampNeg) ≠ 0 → vp_in l1 4 ∧ vp_in l3 4 ∧ ((σ.1 13 l1.toNatClampNeg) = (σ.1 13 l3.toNatClampNeg) → (l5 < 0 → Q (-12 : Int32) σ) ∧ (¬ l5 < 0 → (l2 < 0 → Q (-12 : Int32) σ) ∧ (¬ l2 < 0 → (l4 < 0 → Q (-12 : Int32) σ) ∧ (¬ l4 < 0 → vp_in l1 4 ∧ (((σ.1 14 l1.toNatClampNeg) - l5) < l2 → Q (-12 : Int32) σ) ∧ (¬ ((σ.1 14 l1.toNatClampNeg) - l5) < l2 → vp_in l3 4 ∧ (l4 ≤ ((σ.1 14 l3.toNatClampNeg) - l5) → (l1 ≠ l3 → wX5_copy_121 Q l1 l2 l3 l4 l5 (0 : Int32) (0 : Int32) σ) ∧ (l1 = l3 → (l4 ≤ l2 → wX5_copy_121 Q l1 l2 l3 l4 l5 (0 : Int32) (0 : Int32) σ) ∧ (¬ l4 ≤ l2 → wX5_copy_121 Q l1 l2 l3 l4 l5 (1 : Int32) (0 : Int32) σ))) ∧ (¬ l4 ≤ ((σ.1 14 l3.toNatClampNeg) - l5) → Q (-12 : Int32) σ)))))) ∧ (¬ (σ.1 13 l1.toNatClampNeg) = (σ.1 13 l3.toNatClampNeg) → Q (-13 : Int32) σ)) ∧ ((σ.1 12 l3.toNatClampNeg) = 0 → Q (-11 : Int32) σ))) ∧ (r3 = 0 → Q (-2 : Int32) σ))))
def wX5_works_75 (Q : Int32 → kS → Prop) (l1 : Int32) (l3 : Int32) (l4 : Int32) (l5 : Int32) (l6 : Int32) (σ : kS) : Prop :=
  ∀ P75 : kS → Int32 → Int32 → Prop, (∀ (σ : kS) (l5 : Int32) (l6 : Int32), ((l4 ≤ l6 → Q l5 σ) ∧ (¬ l4 ≤ l6 → (l3 < 0 → Q (-12 : Int32) σ) ∧ (¬ l3 < 0 → vp_in l1 4 ∧ (l3 ≤ (((σ.1 14 l1.toNatClampNeg) - ((3 : Int32) * l6)) - (3 : Int32)) → ∀ x13 : Int32, x13 = (((40 : Int32) * l1) + l3) + ((3 : Int32) * l6) → vp_in x13 160 ∧ vp_in (x13 + (1 : Int32)) 160 ∧ vp_in (x13 + (2 : Int32)) 160 ∧ wX5_work (σ.1 15 x13.toNatClampNeg) (σ.1 15 (x13 + (1 : Int32)).toNatClampNeg) (σ.1 15 (x13 + (2 : Int32)).toNatClampNeg) σ (fun r15 s14 => (r15 < 0 → ∀ x17 : Int32, x17 = l5 + (0 : Int32) → ∀ x18 : Int32, x18 = l6 + (1 : Int32) → P75 s14 x17 x18) ∧ (¬ r15 < 0 → ∀ x19 : Int32, x19 = l5 + (1 : Int32) → ∀ x20 : Int32, x20 = l6 + (1 : Int32) → P75 s14 x19 x20))) ∧ (¬ l3 ≤ (((σ.1 14 l1.toNatClampNeg) - ((3 : Int32) * l6)) - (3 : Int32)) → Q (-12 : Int32) σ)))) → P75 σ l5 l6) → P75 σ l5 l6
def wX5_works_57 (Q : Int32 → kS → Prop) (l1 : Int32) (l3 : Int32) (l4 : Int32) (σ : kS) : Prop :=
  vp_in l1 4 ∧ ((σ.1 12 l1.toNatClampNeg) ≠ 0 → wX5_works_75 Q l1 l3 l4 (0 : Int32) (0 : Int32) σ) ∧ ((σ.1 12 l1.toNatClampNeg) = 0 → Q (-11 : Int32) σ)
def wX5_works (l1 : Int32) (l2 : Int32) (l3 : Int32) (l4 : Int32) (σ : kS) (Q : Int32 → kS → Prop) : Prop :=
  wX5_isSheet l1 (fun r1 => (r1 = 0 → Q (-2 : Int32) σ) ∧ (¬ r1 = 0 → wX5_in l2.toInt64 (0 : Int64) (2 : Int64) (fun r3 => (r3 = 0 → Q (-2 : Int32) σ) ∧ (¬ r3 = 0 → wX5_in l4.toInt64 (0 : Int64) (6 : Int64) (fun r5 => (r5 ≠ 0 → vp_in l1 4 ∧ ((σ.1 12 l1.toNatClampNeg) = 0 → wX5_works_57 Q l1 l3 l4 σ) ∧ (¬ (σ.1 12 l1.toNatClampNeg) = 0 → vp_in l1 4 ∧ ((σ.1 13 l1.toNatClampNeg) = l2 → wX5_works_57 Q l1 l3 l4 σ) ∧ (¬ (σ.1 13 l1.toNatClampNeg) = l2 → Q (-13 : Int32) σ))) ∧ (r5 = 0 → Q (-2 : Int32) σ))))))
def wX5_over (l0 : Int32) (Q : Int32 → Prop) : Prop :=
  (l0 ≠ 0 → (l0 ≠ (3 : Int32) → (l0 ≠ (4 : Int32) → Q (0 : Int32)) ∧ (l0 = (4 : Int32) → Q (2 : Int32))) ∧ (l0 = (3 : Int32) → Q (1 : Int32))) ∧ (l0 = 0 → Q (-1 : Int32))
def wX5_taken_51 (Q : Int32 → kS → Prop) (l1 : Int32) (l2 : Int32) (l3 : Int32) (σ : kS) : Prop :=
  (l3 ≠ l2 → Q (-13 : Int32) σ) ∧ (l3 = l2 → vp_in ((3 : Int32) * l1) 18 ∧ Q (σ.1 6 ((3 : Int32) * l1).toNatClampNeg) σ)
def wX5_taken_33 (Q : Int32 → kS → Prop) (l1 : Int32) (l2 : Int32) (l3 : Int32) (σ : kS) : Prop :=
  ∀ P33 : Int32 → Prop, (∀ (l3 : Int32), ((l3 = (-1 : Int32) → wX5_taken_51 Q l1 l2 l3 σ) ∧ (¬ l3 = (-1 : Int32) → (l3 = l2 → wX5_taken_51 Q l1 l2 l3 σ) ∧ (¬ l3 = l2 → wX5_over l3 (fun r9 => P33 r9)))) → P33 l3) → P33 l3
def wX5_taken (l1 : Int32) (l2 : Int32) (σ : kS) (Q : Int32 → kS → Prop) : Prop :=
  wX5_in l2.toInt64 (0 : Int64) (5 : Int64) (fun r1 => (r1 ≠ 0 → wX5_isWork l1 σ (fun r4 s3 => (r4 ≠ 0 → vp_in l1 6 ∧ ∀ x6 : Int32, x6 = s3.1 5 l1.toNatClampNeg → wX5_taken_33 Q l1 l2 x6 s3) ∧ (r4 = 0 → Q (-11 : Int32) s3))) ∧ (r1 = 0 → Q (-2 : Int32) σ))
def wJ6_bitCount (l0 : Int32) (Q : Int32 → Prop) : Prop :=
  ∀ x1 : Int32, x1 = l0 - ((kushr l0 (1 : Int32)) &&& (1431655765 : Int32)) → ∀ x2 : Int32, x2 = (x1 &&& (858993459 : Int32)) + ((kushr x1 (2 : Int32)) &&& (858993459 : Int32)) → ∀ x3 : Int32, x3 = (x2 + (kushr x2 (4 : Int32))) &&& (252645135 : Int32) → ∀ x4 : Int32, x4 = x3 + (kushr x3 (8 : Int32)) → ∀ x5 : Int32, x5 = x4 + (kushr x4 (16 : Int32)) → Q (x5 &&& (63 : Int32))
