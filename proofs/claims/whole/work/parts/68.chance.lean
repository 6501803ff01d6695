/-! the two programs side by side: chance -/
def kSimL (tx : List kTxt) (σm : kS) (w : (Int64 → kS → Prop) → Prop) : Int64 → kS → Prop := fun r σx' => w (fun r' σm' => r' = r ∧ kInv tx σx' σm')
def sEn (f : Nat → Int32) (k : Int32) : Nat → Nat
  | 0 => 0
  | i + 1 => if f i < k then sEn f k i else sEn f k i + 1
theorem sEn_le {f : Nat → Int32} {k : Int32} : ∀ n : Nat, sEn f k n ≤ n := by
  intro n
  induction n with
  | zero => exact Nat.le_refl _
  | succ n ih =>
    by_cases q : f n < k
    · rw [show sEn f k (n + 1) = sEn f k n from if_pos q]
      omega
    · rw [show sEn f k (n + 1) = sEn f k n + 1 from if_neg q]
      omega
def gcdN : Nat → Nat → Nat → Option Nat
  | 0, _, _ => none
  | f + 1, a, b => if b = 0 then some a else gcdN f b (a % b)
def gcdB (o : Option Nat) : Bool := match o with
  | some r => decide (0 < r) && decide (r < 21)
  | none => false
theorem gcd_all2 : ∀ a : Nat, a < 21 → ∀ b : Nat, b < 20 → gcdB (gcdN 10 a (b + 1)) = true := by decide +kernel
theorem gcd_all {a b : Nat} (ha : a < 21) (h0 : 0 < b) (hb : b < 21) : ∃ r : Nat, 0 < r ∧ r < 21 ∧ gcdN 10 a b = some r := by
  have e := gcd_all2 a ha (b - 1) (by omega)
  rw [show b - 1 + 1 = b by omega] at e
  cases hg : gcdN 10 a b with
  | none =>
    rw [hg] at e
    exact absurd e (by decide)
  | some r =>
    rw [hg] at e
    simp only [gcdB, Bool.and_eq_true, decide_eq_true_eq] at e
    exact ⟨r, e.1, e.2, rfl⟩
theorem x_gcd {Q : Int32 → Prop} {r : Nat} (hr : 0 < r) (hr2 : r < 1000) (hQ : Q (nI r)) : ∀ (f a b i : Nat), a < 1000 → b < 1000 → f + i ≤ 64 → gcdN f a b = some r → wX4_commonDivisor_7 Q (nI a) (nI b) (nI i) := by
  intro f
  induction f with
  | zero => intro a b i _ _ _ h; cases h
  | succ f ih =>
    intro a b i ha hb hi h P hP
    refine hP _ _ _ ⟨fun q => absurd q (nI_ge (b := 64) (by omega) (by decide)), fun _ => ⟨fun q => ?_, fun q => ⟨q, fun x3 e3 x4 e4 => ?_⟩⟩⟩
    · have hb0 : b = 0 := (nI_eq (b := 0) (by omega) (by decide)).mp q
      rw [show gcdN (f + 1) a b = some a from if_pos hb0] at h
      cases h
      exact ⟨fun _ => hQ, fun z => absurd (nI_le (a := 1) hr (by omega)) z⟩
    · have hb0 : ¬ b = 0 := fun z => q (by rw [z]; rfl)
      rw [show gcdN (f + 1) a b = gcdN f b (a % b) from if_neg hb0] at h
      have hm := Nat.mod_lt a (show b > 0 by omega)
      rw [e3, e4, k_n1, (i_divrem (m := a) (d := b) (by omega) (by omega) (by omega)).2]
      exact ih b (a % b) (i + 1) hb (by omega) (by omega) h P hP
theorem m_gcd {Q : Int64 → kS → Prop} {σ : kS} {l2 l4 : Int32} {l5 : Int64} {r : Nat} (h1 : l4 ≠ 0 → (¬ lN r = 0) ∧ Q (l2.toInt64 / lN r) σ) (h0 : l4 = 0 → (¬ lN r = 0) ∧ Q (l5 / lN r) σ) : ∀ (f a b : Nat), a < 1000 → b < 1000 → gcdN f a b = some r → wX5_chance_103 Q l2 l4 l5 (lN a) (lN b) σ := by
  intro f
  induction f with
  | zero => intro a b _ _ h; cases h
  | succ f ih =>
    intro a b ha hb h P hP
    refine hP _ _ ⟨fun q => ?_, fun q => ?_⟩
    · rw [lg_cmp_eq] at q
      have hb0 : b = 0 := (lN_eq (b := 0) (by omega) (by decide)).mp q
      rw [show gcdN (f + 1) a b = some a from if_pos hb0] at h
      cases h
      exact ⟨h1, h0⟩
    · rw [lg_cmp_eq] at q
      have hb0 : ¬ b = 0 := fun z => q (by rw [z]; rfl)
      rw [show gcdN (f + 1) a b = gcdN f b (a % b) from if_neg hb0] at h
      have hm := Nat.mod_lt a (show b > 0 by omega)
      refine ⟨q, fun x e => ?_⟩
      have e2 : klrem (lN a) (lN b) = lN (a % b) := pk_lRem (by omega) (by omega) (by omega)
      rw [e, e2]
      exact ih b (a % b) hb (by omega) h P hP
def sDr (W : Nat → Nat → (Nat → Int32) → Int32) (l1 : Int32) (n : Nat) (A : kFn) (i : Nat) : Int32 := sPop (sDry (sRun W true (l1 + nI i) n A))
theorem x_chanceL {tx : List kTxt} {m n : Nat} {l1 l4 k : Int32} {σx : kS} {Q : Int64 → kS → Prop} (hm1 : 1 ≤ m) (hm2 : m ≤ 20) (hn : n ≤ 30) (hE : xE tx σx) (hO : sOk tx.length (fx 3 σx))
    (h : ∀ s : kS, xO1 σx s → ∀ r : Nat, 0 < r → r < 21 → gcdN 10 (sEn (sDr (sW tx) l1 n (nf (fx 3 σx))) k m) m = some r → (l4 ≠ 0 → Q (lN (m / r)) s) ∧ (l4 = 0 → Q (lN (sEn (sDr (sW tx) l1 n (nf (fx 3 σx))) k m / r)) s)) : wX4_chance_66 tx Q l1 (nI m) l4 (nI n) k (0 : Int32) (0 : Int32) σx := by
  intro P hP
  suffices key : ∀ c i : Nat, i + c = m → ∀ s : kS, xO1 σx s → P s (nI (sEn (sDr (sW tx) l1 n (nf (fx 3 σx))) k i)) (nI i) from key m 0 (by omega) σx xO1.rf
  intro c
  induction c with
  | zero =>
    intro i hi s o
    have e : i = m := by omega
    subst e
    refine hP _ _ _ ⟨fun _ => ?_, fun q => absurd (Int32.le_refl _) q⟩
    have hle := sEn_le (f := sDr (sW tx) l1 n (nf (fx 3 σx))) (k := k) i
    obtain ⟨r, r0, r21, hg⟩ := gcd_all (a := sEn (sDr (sW tx) l1 n (nf (fx 3 σx))) k i) (b := i) (by omega) (by omega) (by omega)
    have fin := h s o r r0 r21 hg
    refine x_gcd r0 (by omega) ?_ 10 _ _ 0 (by omega) (by omega) (by decide) hg
    have hne : ¬ nI r = 0 := nI_ne0 r0 (by omega)
    refine ⟨fun q => ⟨hne, ?_⟩, fun q => ⟨hne, ?_⟩⟩
    · have hd : i / r ≤ i := Nat.div_le_self _ _
      rw [pk_div (by omega) r0 (by omega), nI_l (by omega)]
      exact fin.1 q
    · have hd : sEn (sDr (sW tx) l1 n (nf (fx 3 σx))) k i / r ≤ sEn (sDr (sW tx) l1 n (nf (fx 3 σx))) k i := Nat.div_le_self _ _
      rw [pk_div (by omega) r0 (by omega), nI_l (by omega)]
      exact fin.2 q
  | succ c ih =>
    intro i hi s o
    have now : fx 3 s = fx 3 σx := xO1_fx o
    refine hP _ _ _ ⟨fun q => absurd q (nI_ge (by omega) (by omega)), fun _ => x_drawn (by omega) (hE.o1 o) (by rw [now]; exact hO) (fun s2 o2 => ?_)⟩
    rw [now]
    have nx := ih (i + 1) (by omega) s2 (o.tr o2)
    refine ⟨fun q x ex => ?_, fun q x ex y ey => ?_⟩
    · rw [ex, k_n1]
      rw [show sEn (sDr (sW tx) l1 n (nf (fx 3 σx))) k (i + 1) = sEn (sDr (sW tx) l1 n (nf (fx 3 σx))) k i from if_pos q] at nx
      exact nx
    · rw [ex, ey, k_n1, k_n1]
      rw [show sEn (sDr (sW tx) l1 n (nf (fx 3 σx))) k (i + 1) = sEn (sDr (sW tx) l1 n (nf (fx 3 σx))) k i + 1 from if_neg q] at nx
      exact nx
theorem m_chanceL {nt m n p : Nat} {W : Nat → Nat → (Nat → Int32) → Int32} {l1 l4 : Int32} {A : kFn} {σm : kS} {Q : Int64 → kS → Prop} (hm1 : 1 ≤ m) (hm2 : m ≤ 20) (hn : p / 100 = n) (hn3 : n ≤ 30) (hp : p < 10000) (hE : mE W nt σm) (hO : sOk nt A) (hR : mR A σm)
    (h : ∀ s : kS, mU σm s → ∀ r : Nat, 0 < r → r < 21 → gcdN 10 (sEn (sDr W l1 n A) (nI (p % 100)) m) m = some r → (l4 ≠ 0 → Q (lN (m / r)) s) ∧ (l4 = 0 → Q (lN (sEn (sDr W l1 n A) (nI (p % 100)) m / r)) s)) : wX5_chance_54 Q l1 (nI m) (nI p) l4 (0 : Int64) (0 : Int32) σm := by
  have ed := i_divrem (m := p) (d := 100) (by omega) (by decide) (by decide)
  have ed1 : nI p / (100 : Int32) = nI n := by rw [← hn]; exact ed.1
  have ed2 : krem (nI p) (100 : Int32) = nI (p % 100) := ed.2
  intro P hP
  suffices key : ∀ c i : Nat, i + c = m → ∀ s : kS, mU σm s → P s (lN (sEn (sDr W l1 n A) (nI (p % 100)) i)) (nI i) from key m 0 (by omega) σm mU.rf
  intro c
  induction c with
  | zero =>
    intro i hi s o
    have e : i = m := by omega
    subst e
    refine hP _ _ _ ⟨fun _ x9 e9 => ?_, fun q => absurd (Int32.le_refl _) q⟩
    have hle := sEn_le (f := sDr W l1 n A) (k := nI (p % 100)) i
    obtain ⟨r, r0, r21, hg⟩ := gcd_all (a := sEn (sDr W l1 n A) (nI (p % 100)) i) (b := i) (by omega) (by omega) (by omega)
    have fin := h s o r r0 r21 hg
    rw [e9, nI_l (by omega)]
    have hne : ¬ lN r = 0 := fun z => by
      have := (lN_eq (b := 0) (by omega) (by decide)).mp z
      omega
    refine m_gcd (r := r) (fun q => ⟨hne, ?_⟩) (fun q => ⟨hne, ?_⟩) 10 _ _ (by omega) (by omega) hg
    · rw [nI_l (by omega), pk_lDiv (by omega) r0 (by omega)]
      exact fin.1 q
    · rw [pk_lDiv (by omega) r0 (by omega)]
      exact fin.2 q
  | succ c ih =>
    intro i hi s o
    refine hP _ _ _ ⟨fun q => absurd q (nI_ge (by omega) (by omega)), fun _ => ?_⟩
    rw [ed1, ed2]
    refine m_runs (d := true) hn3 rfl (hE.u o) hO (mU_R o hR) (fun s2 u2 d2 e33 _ _ => ?_)
    rw [e33]
    refine m_bitsOf sDry_set ?_
    have nx := ih (i + 1) (by omega) s2 (o.tr u2)
    refine ⟨fun q x ex y ey => ?_, fun q x ex y ey => ?_⟩
    · rw [ex, ey, k_n1]
      rw [show sEn (sDr W l1 n A) (nI (p % 100)) (i + 1) = sEn (sDr W l1 n A) (nI (p % 100)) i from if_pos q] at nx
      rw [show lN (sEn (sDr W l1 n A) (nI (p % 100)) i) + (0 : Int64) = lN (sEn (sDr W l1 n A) (nI (p % 100)) i) from Int64.add_zero _]
      exact nx
    · rw [ex, ey, k_n1, lN_1]
      rw [show sEn (sDr W l1 n A) (nI (p % 100)) (i + 1) = sEn (sDr W l1 n A) (nI (p % 100)) i + 1 from if_neg q] at nx
      exact nx
theorem s_chance {tx : List kTxt} {σx σm : kS} {l1 l2 l3 l4 : Int32} (hI : kInv tx σx σm) : wX4_chance tx l1 l2 l3 l4 σx (kSimL tx σm (wX5_chance l1 l2 l3 l4 σm)) := by
  have hI0 := hI
  obtain ⟨a1, a2, a3, a4, a5, a6, a7, a8, a9⟩ := hI
  have hO := nf_ok.mpr a4
  have no : ¬ ((1 ≤ l2 ∧ l2 ≤ 20) ∧ (0 ≤ l3 ∧ l3 ≤ 3012) ∧ ¬ 12 < krem l3 100 ∧ (0 ≤ l4 ∧ l4 ≤ 1)) → kSimL tx σm (wX5_chance l1 l2 l3 l4 σm) (-4611686018427387904 : Int64) σx := by
    intro hb
    unfold kSimL wX5_chance
    refine m_in32 (lo := 1) (hi := 20) (by decide) (by decide) (fun q1 => ⟨fun z => absurd z (by decide), fun _ => ?_⟩) (fun _ => ⟨fun _ => ⟨rfl, hI0⟩, fun z => absurd rfl z⟩)
    refine m_in32 (lo := 0) (hi := 3012) (by decide) (by decide) (fun q2 => ⟨fun z => absurd z (by decide), fun _ => ⟨fun _ => ⟨rfl, hI0⟩, fun q3 => ?_⟩⟩) (fun _ => ⟨fun _ => ⟨rfl, hI0⟩, fun z => absurd rfl z⟩)
    exact m_in32 (lo := 0) (hi := 1) (by decide) (by decide) (fun q4 => absurd ⟨q1, q2, q3, q4⟩ hb) (fun _ => ⟨fun z => absurd rfl z, fun _ => ⟨rfl, hI0⟩⟩)
  refine ⟨fun q => no (by grind), fun q1 => ⟨fun q => no (by grind), fun q2 => ⟨fun q => no (by grind), fun q3 => ⟨fun q4 x5 e5 x6 e6 => ⟨fun q => no (by grind), fun q5 => ?_⟩, fun q => no (by grind)⟩⟩⟩⟩
  obtain ⟨p, hp, e⟩ := nI_of (x := l3) q5
  subst e
  obtain ⟨m, hm, e⟩ := nI_of2 (x := l2) (M := 20) (n := 20) (by decide) (by grind) (by grind)
  subst e
  have hm1 : 1 ≤ m := by
    rcases Nat.lt_or_ge m 1 with z | z
    · exact absurd (nI_lt (b := 1) z (by decide)) q1
    · exact z
  have ed := i_divrem (m := p) (d := 100) hp (by decide) (by decide)
  have ed1 : nI p / (100 : Int32) = nI (p / 100) := ed.1
  have ed2 : krem (nI p) (100 : Int32) = nI (p % 100) := ed.2
  rw [ed1] at e5
  have e6k : krem (nI p) (100 : Int32) = x6 := e6.symm
  rw [ed2] at e6
  refine ⟨fun q => no (fun z => ?_), fun q6 => ⟨fun q7 => ?_, fun q => no (fun z => ?_)⟩⟩
  · have h1 := (nI_leI (b := 3012) hp (by decide)).mp z.2.1.2
    rw [e5] at q
    have h2 := (nI_ltI (a := 30) (by decide) (by omega)).mp q
    omega
  · have hn : p / 100 ≤ 30 := by
      rcases Nat.lt_or_ge 30 (p / 100) with z | z
      · exact absurd (show (30 : Int32) < x5 by rw [e5]; exact nI_lt (a := 30) z (by omega)) q6
      · exact z
    have hk : p % 100 ≤ 12 := by
      rw [e6] at q7
      exact (nI_leI (b := 12) (by omega) (by decide)).mp q7
    have hp3 : p ≤ 3012 := by omega
    rw [e5, e6]
    refine x_chanceL hm1 hm hn a1 a4 (fun s1 o1 r r0 r21 hg => ?_)
    have go : ∀ v : Int64, (∀ s2 : kS, mU σm s2 → ∀ r' : Nat, 0 < r' → r' < 21 → gcdN 10 (sEn (sDr (sW tx) l1 (p / 100) (nf (fx 3 σx))) (nI (p % 100)) m) m = some r' → (l4 ≠ 0 → lN (m / r') = v) ∧ (l4 = 0 → lN (sEn (sDr (sW tx) l1 (p / 100) (nf (fx 3 σx))) (nI (p % 100)) m / r') = v)) → kSimL tx σm (wX5_chance l1 (nI m) (nI p) l4 σm) v s1 := by
      intro v hv
      unfold kSimL wX5_chance
      refine m_in32 (lo := 1) (hi := 20) (by decide) (by decide) (fun _ => ⟨fun z => absurd z (by decide), fun _ => ?_⟩) (fun z => absurd ⟨nI_le (a := 1) hm1 (by omega), nI_le (b := 20) hm (by decide)⟩ z)
      refine m_in32 (lo := 0) (hi := 3012) (by decide) (by decide) (fun _ => ⟨fun z => absurd z (by decide), fun _ => ⟨fun z => ?_, fun _ => ?_⟩⟩) (fun z => absurd ⟨nI_pos' hp, nI_le (b := 3012) hp3 (by decide)⟩ z)
      · rw [ed2] at z
        exact absurd z (nI_nlt (a := 12) hk (by decide))
      · refine m_in32 (lo := 0) (hi := 1) (by decide) (by decide) (fun _ => ⟨fun _ => ?_, fun z => absurd z (by decide)⟩) (fun z => absurd ⟨by grind, q4⟩ z)
        exact m_chanceL hm1 hm rfl hn (by omega) a2 hO a5 (fun s2 u2 r' r0' r21' hg' => ⟨fun q => ⟨(hv s2 u2 r' r0' r21' hg').1 q, hI0.u o1 u2⟩, fun q => ⟨(hv s2 u2 r' r0' r21' hg').2 q, hI0.u o1 u2⟩⟩)
    refine ⟨fun q => go _ (fun s2 u2 r' _ _ hg' => ?_), fun q => go _ (fun s2 u2 r' _ _ hg' => ?_)⟩
    · rw [hg] at hg'
      cases hg'
      exact ⟨fun _ => rfl, fun z => absurd z q⟩
    · rw [hg] at hg'
      cases hg'
      exact ⟨fun z => absurd q z, fun _ => rfl⟩
  · refine z.2.2.1 ?_
    rw [e6k]
    grind
