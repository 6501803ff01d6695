/-! the start: what the Statement gives of it, as the walk wants it -/
theorem kTblM {w : Cond} (i : Nat) (h : lw_tbl[i]? = some w) : w ∈ lw_tbl := List.mem_of_getElem? h
def kStT (i : Nat) : Term := .string "DrainedForAThird$Reader" (83 + 2 * i)
def kAdr (cI cB cT cR tM tU tS : Nat) (adK adV : Nat → Nat) (n : Nat) : Nat := if n < 10 then [cI, cB, cT, cR, tM, tU, tS].getD n 0 else if n < 30 then adK (n - 10) else adV (n - 30)
theorem kAdr_K {cI cB cT cR tM tU tS : Nat} {adK adV : Nat → Nat} {i : Nat} (h : i < 12) : kAdr cI cB cT cR tM tU tS adK adV (10 + i) = adK i := by
  unfold kAdr
  rw [if_neg (by omega), if_pos (by omega), show 10 + i - 10 = i by omega]
theorem kAdr_V {cI cB cT cR tM tU tS : Nat} {adK adV : Nat → Nat} {i : Nat} : kAdr cI cB cT cR tM tU tS adK adV (30 + i) = adV i := by
  unfold kAdr
  rw [if_neg (by omega), if_neg (by omega), show 30 + i - 30 = i by omega]
section KSTART
variable {s : State} {b : Addr} {A : Nat → Prop}
theorem kStart_T (hgv : (Jvm.Cond.and given_1 narrow_1).before #[Value.ref b] s = true) (hA : ∀ a : Nat, a < s.heap.size → ¬ A a) {n : String} {N : Nat} {f : Nat → Int32} (h0 : Cond.arrayOf (.static "DrainedForAThird$Fen" n "[I") .int ∈ flatC (Jvm.Cond.and given_1 narrow_1)) (h1 : Cond.eq (.length (.static "DrainedForAThird$Fen" n "[I")) (.int (Int32.ofNat N)) ∈ flatC (Jvm.Cond.and given_1 narrow_1)) (hN : N < 2 ^ 31)
    (h2 : ∀ j : Nat, j < N → Cond.eq (.elem (.static "DrainedForAThird$Fen" n "[I") (.int (Int32.ofNat j))) (.int (f j)) ∈ flatC (Jvm.Cond.and given_1 narrow_1)) (hl : (Cond.laysStatic "DrainedForAThird$Fen" n "[I").before #[Value.ref b] s = true) (hini : (Cond.initialized "DrainedForAThird$Fen").before #[Value.ref b] s = true) :
    ∃ t : Nat, va_Z "DrainedForAThird$Fen" n "[I" (.ref t) A s s.heap ∧ va_T .int t N (fun j => .int (f j)) A s s.heap := by
  have hs := flat_of_before _ hgv
  obtain ⟨t, ht, hT⟩ := va_Tof (f := fun j => .int (f j)) hN (hs _ h0) (va_eqt (hs _ h1)) (fun j hj => va_eqt (hs _ (h2 j hj))) hA
  exact ⟨t, va_Zof hl hini ht hA, hT⟩
theorem kStart_S (hgv : (Jvm.Cond.and given_1 narrow_1).before #[Value.ref b] s = true) (hA : ∀ a : Nat, a < s.heap.size → ¬ A a) :
    ∃ adK adV : Nat → Nat, vk_S 12 kSlen kSbyt adK adV A s s.heap ∧ ∀ i : Nat, i < 12 → (kStT i).eval #[Value.ref b] s none [] s = some (.ref (adK i)) := by
  have hs := flat_of_before _ hgv
  refine vk_Sof (tm := kStT) ?_ (fun i hi => hs _ ?_) (fun i hi => hs _ ?_) (fun i hi => hs _ ?_) (fun i hi => hs _ ?_) (fun i hi j hj => hs _ ?_) (fun i j hi hj hij => ?_) hA
  · decide +kernel
  · exact (show ∀ i : Nat, i < 12 → Cond.exactly (kStT i) "java/lang/String" ∈ flatC (Jvm.Cond.and given_1 narrow_1) by decide +kernel) i hi
  · exact (show ∀ i : Nat, i < 12 → Cond.eq (.field (kStT i) "java/lang/String" "coder" "B") (.int 0) ∈ flatC (Jvm.Cond.and given_1 narrow_1) by decide +kernel) i hi
  · exact (show ∀ i : Nat, i < 12 → Cond.arrayOf (.field (kStT i) "java/lang/String" "value" "[B") .byte ∈ flatC (Jvm.Cond.and given_1 narrow_1) by decide +kernel) i hi
  · exact (show ∀ i : Nat, i < 12 → Cond.eq (.length (.field (kStT i) "java/lang/String" "value" "[B")) (.int (Int32.ofNat (kSlen.getD i 0))) ∈ flatC (Jvm.Cond.and given_1 narrow_1) by decide +kernel) i hi
  · exact (show ∀ i : Nat, i < 12 → ∀ j : Nat, j < kSlen.getD i 0 → Cond.eq (.elem (.field (kStT i) "java/lang/String" "value" "[B") (.int (Int32.ofNat j))) (.int ((kSbyt.getD i []).getD j 0)) ∈ flatC (Jvm.Cond.and given_1 narrow_1) by decide +kernel) i hi j hj
  · rcases Nat.lt_or_gt_of_ne hij with h | h
    · exact Or.inl (hs _ ((show ∀ j : Nat, j < 12 → ∀ i : Nat, i < j → Cond.not (Cond.eq (kStT i) (kStT j)) ∈ flatC (Jvm.Cond.and given_1 narrow_1) by decide +kernel) j hj i h))
    · exact Or.inr (hs _ ((show ∀ j : Nat, j < 12 → ∀ i : Nat, i < j → Cond.not (Cond.eq (kStT i) (kStT j)) ∈ flatC (Jvm.Cond.and given_1 narrow_1) by decide +kernel) i hi j h))
theorem kArrOf {cA comp : ClassId} {kA : Class} {ty : FieldType} (h1 : s.vm.classes[cA]? = some kA) (h2 : kA.kind = .array comp ty) : ArrOfT s cA ty := fun n z => ⟨(fun k h => by cases h), kA, h1, comp, h2⟩
set_option maxRecDepth 20000 in
theorem kStart (hts : ∀ w ∈ lw_tbl, w.before #[Value.ref b] s = true) (hgv : (Jvm.Cond.and given_1 narrow_1).before #[Value.ref b] s = true) : ∃ g : kG, va_K g.1 vwCl (kTy g) s ∧ kX g (fun q => s.heap.size ≤ q) s s.heap := by
  have hA : ∀ a : Nat, a < s.heap.size → ¬ (fun q : Nat => s.heap.size ≤ q) a := fun a h => Nat.not_le.mpr h
  have hs := flat_of_before _ hgv
  have hk : ∀ w ∈ kWD, w.before #[Value.ref b] s = true := fun w h => hts w (kWD_in h)
  have hini : (Cond.initialized "DrainedForAThird$Fen").before #[Value.ref b] s = true := hts _ (kTblM 110 (by decide +kernel))
  obtain ⟨c0, i0, K0⟩ := u_known (C := RX0) (T := TX0) (N := 13) (n := 13) hk lysX0 (hts _ (kTblM 131 (by decide +kernel)))
  obtain ⟨c1, i1, K1⟩ := u_known (C := RX1) (T := TX1) (N := 9) (n := 9) hk lysX1 (hts _ (kTblM 200 (by decide +kernel)))
  obtain ⟨c2, i2, K2⟩ := u_known (C := RX2) (T := TX2) (N := 3) (n := 3) hk lysX2 (hts _ (kTblM 234 (by decide +kernel)))
  obtain ⟨c3, i3, K3⟩ := u_known (C := RX3) (T := TX3) (N := 3) (n := 3) hk lysX3 (hts _ (kTblM 184 (by decide +kernel)))
  obtain ⟨c4, i4, K4⟩ := u_known (C := RX4) (T := TX4) (N := 9) (n := 9) hk lysX4 (hts _ (kTblM 123 (by decide +kernel)))
  obtain ⟨c5, i5, K5⟩ := u_known (C := RX5) (T := TX5) (N := 45) (n := 45) hk lysX5 (hts _ (kTblM 808 (by decide +kernel)))
  obtain ⟨cI, kI, xI, a1, a2, a3⟩ := Cond.arrayClass_spec (hts (Cond.arrayClass .int) (kTblM 181 (by decide +kernel)))
  obtain ⟨cB, kB, xB, b1, b2, b3⟩ := Cond.arrayClass_spec (hts (Cond.arrayClass .boolean) (kTblM 952 (by decide +kernel)))
  have hov : (Cond.arrayOver (.object "DrainedForAThird$Text")).before #[Value.ref b] s = true := hts _ (kTblM 183 (by decide +kernel))
  obtain ⟨xT, cT, kT, t1, t2, t3, t4, t5⟩ := Cond.arrayOver_spec hov
  obtain ⟨xR, cR, kR, r1, r2, r3, r4, r5⟩ := arrayOverA_spec (t := .int) (hts (Cond.arrayOver (.array .int)) (kTblM 240 (by decide +kernel)))
  have hRI : xR = cI := Option.some.inj (r1.symm.trans a1)
  subst hRI
  obtain ⟨tM, zM, TM⟩ := kStart_T (n := "MOST") (N := 9) (f := kMost) hgv hA (by decide +kernel) (by decide +kernel) (by omega) (by decide +kernel) (hts _ (kTblM 294 (by decide +kernel))) hini
  obtain ⟨tU, zU, TU⟩ := kStart_T (n := "UNDER") (N := 6) (f := kUnder) hgv hA (by decide +kernel) (by decide +kernel) (by omega) (by decide +kernel) (hts _ (kTblM 806 (by decide +kernel))) hini
  obtain ⟨tS, zS, TS⟩ := kStart_T (n := "MOST_SAID") (N := 3) (f := kSaid) hgv hA (by decide +kernel) (by decide +kernel) (by omega) (by decide +kernel) (hts _ (kTblM 361 (by decide +kernel))) hini
  obtain ⟨adK, adV, S1, S2⟩ := kStart_S hgv hA
  refine ⟨((fun k => [c0, c1, c2, c3, c4, c5].getD k 0, fun k => [i0, i1, i2, i3, i4, i5].getD k (fun _ => 0)), kAdr xR cB cT cR tM tU tS adK adV), ⟨fun c q hc => ?_, fun k q hq => ?_⟩, ⟨⟨va_Nw.of rfl (hts kW1 (kTblM 201 (by decide +kernel))), va_AO.of hov, kR, r3, r4⟩, va_Nw.of rfl (hts kW2 (kTblM 287 (by decide +kernel)))⟩, ⟨zM, TM⟩, ⟨zU, TU⟩, ⟨zS, TS⟩,
    va_Zof (hts _ (kTblM 420 (by decide +kernel))) (hts _ (kTblM 116 (by decide +kernel))) (va_eqi (hs _ (by decide +kernel))) hA, va_Zqof (hts _ (kTblM 436 (by decide +kernel))) (hts _ (kTblM 118 (by decide +kernel))) (hs _ (by decide +kernel)) hA, ⟨⟨fun i hi => ?_, fun i j hi hj e => ?_⟩, fun i hi => ?_⟩⟩
  · match c, hc with
    | 0, hc => cases hc; exact K0
    | 1, hc => cases hc; exact K1
    | 2, hc => cases hc; exact K2
    | 3, hc => cases hc; exact K3
    | 4, hc => cases hc; exact K4
    | 5, hc => cases hc; exact K5
    | _ + 6, hc => cases hc
  · match k, hq with
    | 0, hq => cases hq; exact ⟨kArrOf a2 a3, a1⟩
    | 1, hq => cases hq; exact ⟨kArrOf b2 b3, b1⟩
    | 2, hq => cases hq; exact ⟨kArrOf t3 t4, kT, xT, t3, t4, t1, t5⟩
    | 3, hq => cases hq; exact ⟨kArrOf r3 r4, r5⟩
    | _ + 4, hq => cases hq
  · show va_O _ (kAdr xR cB cT cR tM tU tS adK adV (10 + i)) _ _ _ ∧ va_OF _ _ _ _ (kAdr xR cB cT cR tM tU tS adK adV (10 + i)) _ _ _ ∧ va_OF _ _ _ (.ref (kAdr xR cB cT cR tM tU tS adK adV (30 + i))) (kAdr xR cB cT cR tM tU tS adK adV (10 + i)) _ _ _ ∧ va_T _ (kAdr xR cB cT cR tM tU tS adK adV (30 + i)) _ _ _ _ _
    rw [kAdr_K hi, kAdr_V]
    exact S1.1 i hi
  · have e : kAdr xR cB cT cR tM tU tS adK adV (10 + i) = kAdr xR cB cT cR tM tU tS adK adV (10 + j) := e
    rw [kAdr_K hi, kAdr_K hj] at e
    exact S1.2 i j hi hj e
  · show vk_R _ _ _ (kAdr xR cB cT cR tM tU tS adK adV (10 + i)) _
    rw [kAdr_K hi]
    exact vk_R.of (hts _ ((show ∀ i : Nat, i < 12 → Cond.stringRef "DrainedForAThird$Reader" (83 + 2 * i) (kStx i) ∈ lw_tbl by decide +kernel) i hi)) (S2 i hi)
end KSTART
