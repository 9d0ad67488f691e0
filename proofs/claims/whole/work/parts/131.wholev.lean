/-! THE VIEW OF ONE WORK ALONE -/
section WHOLEV
theorem le9 {x y z w : Int64} (hx : sm9 x) (hy : sm9 y) (hz : sm9 z) (hw : sm9 w) : x * y ≤ z * w ↔ x.toInt * y.toInt ≤ z.toInt * w.toInt := by rw [i64_le, mul9 hx hy, mul9 hz hw]
theorem frac_self {a c : Int64} (h1 : sm9 a) (h2 : sm9 c) (hc : 0 < c.toInt) (ha : 0 ≤ a.toInt) : frac (frT a c) (frB a c) a c := by
  obtain ⟨g0, -⟩ := cmD_dvd hc h1 h2
  have e1 : frT a c = a / cmD a c := by unfold frT; rw [gcd_same h1 h2, dvL_div h1 g0]
  have e2 : frB a c = c / cmD a c := by unfold frB; rw [gcd_same h1 h2, dvL_div h2 g0]
  exact ⟨hc, ha, h1, h2, e1, e2⟩
theorem frac_tr {x0 x1 tp bl tp' bl' : Int64} (h : frac x0 x1 tp bl) (h1 : sm9 tp') (h2 : sm9 bl') (hb : 0 < bl'.toInt) (ht : 0 ≤ tp'.toInt) (e : tp.toInt * bl'.toInt = tp'.toInt * bl.toInt) : frac x0 x1 tp' bl' := by
  have h' : frac (tp' / cmD tp' bl') (bl' / cmD tp' bl') tp' bl' := ⟨hb, ht, h1, h2, rfl, rfl⟩
  have q := (frac_uniq h h').mpr ((eq9 h.2.2.1 h2 h1 h.2.2.2.1).mpr e)
  rw [q.1, q.2]
  exact h'
def nN (nu : Nat → Int32) (w k : Nat) : Int := (nu (w * 4 + k)).toInt
def nB (nu : Nat → Int32) (t w : Nat) : Prop := ∀ k, k < t → 0 ≤ nN nu w k ∧ nN nu w k ≤ 1800
theorem nN64 (nu : Nat → Int32) (w k : Nat) : (nu (w * 4 + k)).toInt64.toInt = nN nu w k := i32_to64 _
theorem nB9 {nu : Nat → Int32} {t w k : Nat} (h : nB nu t w) (hk : k < t) : sm9 (nu (w * 4 + k)).toInt64 := by
  unfold sm9
  rw [nN64]
  have := h k hk
  omega
theorem fitI_iff {nu : Nat → Int32} {o w : Nat} {tp bl : Int64} : ∀ (n i : Nat), fitI nu o w tp bl i n = true ↔ ∀ k, i ≤ k → k < i + n → (nu (o * 4 + k)).toInt64 * bl ≤ (nu (w * 4 + k)).toInt64 * tp
  | 0, i => ⟨fun _ k h1 h2 => by omega, fun _ => rfl⟩
  | n + 1, i => by
    rw [fitI]
    by_cases h : (nu (o * 4 + i)).toInt64 * bl ≤ (nu (w * 4 + i)).toInt64 * tp
    · rw [if_pos h, fitI_iff n (i + 1)]
      constructor
      · intro q k h1 h2
        by_cases e : k = i
        · rw [e]; exact h
        · exact q k (by omega) (by omega)
      · intro q k h1 h2
        exact q k (by omega) (by omega)
    · rw [if_neg h]
      exact ⟨fun q => (by cases q), fun q => absurd (q i (Nat.le_refl _) (by omega)) h⟩
theorem fitO_iff {nu : Nat → Int32} {o w : Nat} : ∀ (n i : Nat), fitO nu o w i n = true ↔ ∀ k, i ≤ k → k < i + n → nN nu w k ≤ nN nu o k
  | 0, i => ⟨fun _ k h1 h2 => by omega, fun _ => rfl⟩
  | n + 1, i => by
    rw [fitO]
    by_cases h : nu (w * 4 + i) ≤ nu (o * 4 + i)
    · rw [if_pos h, fitO_iff n (i + 1)]
      constructor
      · intro q k h1 h2
        by_cases e : k = i
        · rw [e]; exact (i32_le _ _).mp h
        · exact q k (by omega) (by omega)
      · intro q k h1 h2
        exact q k (by omega) (by omega)
    · rw [if_neg h]
      exact ⟨fun q => (by cases q), fun q => absurd ((i32_le _ _).mpr (q i (Nat.le_refl _) (by omega))) h⟩
/-- one work alone gives enough, and takes nothing where none is taken -/
def gd (nu : Nat → Int32) (ri ro o w : Nat) : Prop := (∀ k, ri ≤ k → k < ri + ro → nN nu w k ≤ nN nu o k) ∧ ∀ k, k < ri → nN nu w k = 0 → nN nu o k = 0
/-- by this share -/
def isR (nu : Nat → Int32) (ri o w : Nat) (t b : Int) : Prop := 0 < b ∧ 0 ≤ t ∧ (∀ k, k < ri → nN nu o k * b ≤ t * nN nu w k) ∧ ∃ k, k < ri ∧ 0 < nN nu w k ∧ t * nN nu w k = nN nu o k * b
theorem isR_uniq {nu : Nat → Int32} {ri o w : Nat} {t b t' b' : Int} (h : isR nu ri o w t b) (h' : isR nu ri o w t' b') : t * b' = t' * b := by
  obtain ⟨b0, t0, ha, k, k1, k2, k3⟩ := h
  obtain ⟨b0', t0', ha', l, l1, l2, l3⟩ := h'
  have q1 := ha l l1
  have q2 := ha' k k1
  -- t'/b' = o l / w l <= t/b ; t/b = o k / w k <= t'/b'
  have e1 : t' * b ≤ t * b' := by
    have z : nN nu w l * (t' * b) ≤ nN nu w l * (t * b') := by
      have z1 : nN nu w l * (t' * b) = (nN nu o l * b) * b' := by
        have : nN nu w l * (t' * b) = (t' * nN nu w l) * b := by grind
        rw [this, l3]; grind
      have z2 : nN nu w l * (t * b') = (t * nN nu w l) * b' := by grind
      rw [z1, z2]
      exact Int.mul_le_mul_of_nonneg_right q1 (by omega)
    exact Int.le_of_mul_le_mul_left z l2
  have e2 : t * b' ≤ t' * b := by
    have z : nN nu w k * (t * b') ≤ nN nu w k * (t' * b) := by
      have z1 : nN nu w k * (t * b') = (nN nu o k * b') * b := by
        have : nN nu w k * (t * b') = (t * nN nu w k) * b' := by grind
        rw [this, k3]; grind
      have z2 : nN nu w k * (t' * b) = (t' * nN nu w k) * b := by grind
      rw [z1, z2]
      exact Int.mul_le_mul_of_nonneg_right q2 (by omega)
    exact Int.le_of_mul_le_mul_left z k2
  omega
theorem fits_int {nu : Nat → Int32} {ri ro o w : Nat} {tp bl : Int64} (ho : nB nu (ri + ro) o) (hw : nB nu (ri + ro) w) (h1 : sm9 tp) (h2 : sm9 bl) : fitsB nu ri ro o w tp bl = true ↔ (∀ k, ri ≤ k → k < ri + ro → nN nu w k ≤ nN nu o k) ∧ ∀ k, k < ri → nN nu o k * bl.toInt ≤ nN nu w k * tp.toInt := by
  unfold fitsB
  rw [Bool.and_eq_true, fitI_iff, fitO_iff]
  constructor
  · intro q
    refine ⟨q.2, fun k hk => ?_⟩
    have z := (le9 (nB9 ho (k := k) (by omega)) h2 (nB9 hw (k := k) (by omega)) h1).mp (q.1 k (Nat.zero_le _) (by omega))
    rw [nN64, nN64] at z
    exact z
  · intro q
    refine ⟨fun k _ hk => ?_, q.1⟩
    refine (le9 (nB9 ho (k := k) (by omega)) h2 (nB9 hw (k := k) (by omega)) h1).mpr ?_
    rw [nN64, nN64]
    exact q.2 k (by omega)
theorem fits_gd {nu : Nat → Int32} {ri ro o w : Nat} {tp bl : Int64} (ho : nB nu (ri + ro) o) (hw : nB nu (ri + ro) w) (h1 : sm9 tp) (h2 : sm9 bl) (hb : 0 < bl.toInt) (h : fitsB nu ri ro o w tp bl = true) : gd nu ri ro o w := by
  obtain ⟨a, c⟩ := (fits_int ho hw h1 h2).mp h
  refine ⟨a, fun k hk e => ?_⟩
  have q := c k hk
  rw [e, Int.zero_mul] at q
  have := ho k (by omega)
  refine Classical.byContradiction (fun z => ?_)
  have := Int.mul_pos (show 0 < nN nu o k by omega) hb
  omega
theorem fits_iff {nu : Nat → Int32} {ri ro o w : Nat} {tp bl : Int64} {t b : Int} (ho : nB nu (ri + ro) o) (hw : nB nu (ri + ro) w) (h1 : sm9 tp) (h2 : sm9 bl) (hb : 0 < bl.toInt) (hg : gd nu ri ro o w) (hr : isR nu ri o w t b) : fitsB nu ri ro o w tp bl = true ↔ t * bl.toInt ≤ tp.toInt * b := by
  rw [fits_int ho hw h1 h2]
  obtain ⟨b0, t0, ha, k, k1, k2, k3⟩ := hr
  constructor
  · intro q
    have z := q.2 k k1
    have z2 : nN nu w k * (t * bl.toInt) ≤ nN nu w k * (tp.toInt * b) := by
      have z1 : nN nu w k * (t * bl.toInt) = (nN nu o k * bl.toInt) * b := by
        have : nN nu w k * (t * bl.toInt) = (t * nN nu w k) * bl.toInt := by grind
        rw [this, k3]; grind
      have z3 : nN nu w k * (tp.toInt * b) = (nN nu w k * tp.toInt) * b := by grind
      rw [z1, z3]
      exact Int.mul_le_mul_of_nonneg_right z (by omega)
    exact Int.le_of_mul_le_mul_left z2 k2
  · intro q
    refine ⟨hg.1, fun j hj => ?_⟩
    have z := ha j hj
    have hj0 := hw j (by omega)
    have y1 : (nN nu o j * b) * bl.toInt ≤ (t * nN nu w j) * bl.toInt := Int.mul_le_mul_of_nonneg_right z (by omega)
    have y2 : (t * bl.toInt) * nN nu w j ≤ (tp.toInt * b) * nN nu w j := Int.mul_le_mul_of_nonneg_right q hj0.1
    have y3 : b * (nN nu o j * bl.toInt) ≤ b * (nN nu w j * tp.toInt) := by
      have e1 : b * (nN nu o j * bl.toInt) = (nN nu o j * b) * bl.toInt := by grind
      have e2 : b * (nN nu w j * tp.toInt) = (tp.toInt * b) * nN nu w j := by grind
      have e3 : (t * nN nu w j) * bl.toInt = (t * bl.toInt) * nN nu w j := by grind
      rw [e1, e2]
      omega
    exact Int.le_of_mul_le_mul_left y3 b0
theorem ofI_ok {nu : Nat → Int32} {j w t : Nat} (hj : nB nu t j) (hw : nB nu t w) : ∀ (n k : Nat) (q : Int64 × Int64), k + n ≤ t → 0 < q.2.toInt → 0 ≤ q.1.toInt → sm9 q.1 → sm9 q.2 →
    ((ofI nu j w k n q).1 = true ↔ ∀ l, k ≤ l → l < k + n → nN nu w l = 0 → nN nu j l = 0) ∧
    ((ofI nu j w k n q).1 = true → 0 < (ofI nu j w k n q).2.2.toInt ∧ 0 ≤ (ofI nu j w k n q).2.1.toInt ∧ sm9 (ofI nu j w k n q).2.1 ∧ sm9 (ofI nu j w k n q).2.2 ∧ q.1.toInt * (ofI nu j w k n q).2.2.toInt ≤ (ofI nu j w k n q).2.1.toInt * q.2.toInt ∧
      (∀ l, k ≤ l → l < k + n → 0 < nN nu w l → nN nu j l * (ofI nu j w k n q).2.2.toInt ≤ (ofI nu j w k n q).2.1.toInt * nN nu w l) ∧
      ((ofI nu j w k n q).2 = q ∨ ∃ l, k ≤ l ∧ l < k + n ∧ 0 < nN nu w l ∧ (ofI nu j w k n q).2.1.toInt * nN nu w l = nN nu j l * (ofI nu j w k n q).2.2.toInt))
  | 0, k, q, _, h2, h1, s1, s2 => ⟨⟨fun _ l a c => by omega, fun _ => rfl⟩, fun _ => ⟨h2, h1, s1, s2, Int.le_refl _, fun l a c => by omega, Or.inl rfl⟩⟩
  | n + 1, k, q, hk, h2, h1, s1, s2 => by
    have j0 := hj k (by omega)
    have w0 := hw k (by omega)
    rw [ofI]
    by_cases c : (nu (w * 4 + k)).toInt64 = 0 ∧ 0 < (nu (j * 4 + k)).toInt64
    · rw [if_pos c]
      have c1 : nN nu w k = 0 := by rw [← nN64]; exact (zer9 _).mp c.1
      have c2 : 0 < nN nu j k := by rw [← nN64]; exact (pos9 _).mp c.2
      exact ⟨⟨fun z => (by cases z), fun z => absurd (z k (Nat.le_refl _) (by omega) c1) (by omega)⟩, fun z => (by cases z)⟩
    · rw [if_neg c]
      have c' : nN nu w k = 0 → nN nu j k = 0 := fun z => Classical.byContradiction (fun y => c ⟨(zer9 _).mpr (by rw [nN64]; exact z), (pos9 _).mpr (by rw [nN64]; omega)⟩)
      have s3 := nB9 hj (k := k) (by omega)
      have s4 := nB9 hw (k := k) (by omega)
      -- the step
      obtain ⟨p, hp⟩ : ∃ p, p = ofS nu j w k q := ⟨_, rfl⟩
      have hS : 0 < p.2.toInt ∧ 0 ≤ p.1.toInt ∧ sm9 p.1 ∧ sm9 p.2 ∧ q.1.toInt * p.2.toInt ≤ p.1.toInt * q.2.toInt ∧ (0 < nN nu w k → nN nu j k * p.2.toInt ≤ p.1.toInt * nN nu w k) ∧ (p = q ∨ (0 < nN nu w k ∧ p.1.toInt = nN nu j k ∧ p.2.toInt = nN nu w k)) := by
        rw [hp]
        unfold ofS
        by_cases d : 0 < (nu (w * 4 + k)).toInt64 ∧ q.1 * (nu (w * 4 + k)).toInt64 < (nu (j * 4 + k)).toInt64 * q.2
        · rw [if_pos d]
          have d1 : 0 < nN nu w k := by rw [← nN64]; exact (pos9 _).mp d.1
          have d2 := (lt9 s1 s4 s3 s2).mp d.2
          rw [nN64, nN64] at d2
          refine ⟨by rw [nN64]; exact d1, by rw [nN64]; exact j0.1, s3, s4, ?_, fun _ => ?_, Or.inr ⟨d1, nN64 _ _ _, nN64 _ _ _⟩⟩
          · rw [nN64, nN64]; omega
          · rw [nN64, nN64]; exact Int.le_refl _
        · rw [if_neg d]
          refine ⟨h2, h1, s1, s2, Int.le_refl _, fun z => ?_, Or.inl rfl⟩
          have d2 : ¬ q.1.toInt * nN nu w k < nN nu j k * q.2.toInt := fun y => d ⟨(pos9 _).mpr (by rw [nN64]; exact z), (lt9 s1 s4 s3 s2).mpr (by rw [nN64, nN64]; exact y)⟩
          omega
      rw [← hp]
      obtain ⟨p2, p1, t1, t2, pm, pk, pe⟩ := hS
      obtain ⟨i1, i2⟩ := ofI_ok hj hw n (k + 1) p (by omega) p2 p1 t1 t2
      obtain ⟨R, hRe⟩ : ∃ R, R = ofI nu j w (k + 1) n p := ⟨_, rfl⟩
      rw [← hRe] at i1 i2 ⊢
      refine ⟨?_, fun z => ?_⟩
      · rw [i1]
        constructor
        · intro y l l1 l2
          by_cases e : l = k
          · rw [e]; exact c'
          · exact y l (by omega) (by omega)
        · intro y l l1 l2
          exact y l (by omega) (by omega)
      · obtain ⟨r1, r2, r3, r4, r5, r6, r7⟩ := i2 z
        refine ⟨r1, r2, r3, r4, rat_tr h2 p2 r1 pm r5, fun l l1 l2 l3 => ?_, ?_⟩
        · by_cases e : l = k
          · rw [e] at l3 ⊢
            exact rat_tr l3 p2 r1 (pk l3) r5
          · exact r6 l (by omega) (by omega) l3
        · rcases r7 with r7 | ⟨l, l1, l2, l3, l4⟩
          · rcases pe with pe | ⟨pa, pb, pc⟩
            · exact Or.inl (r7.trans pe)
            · refine Or.inr ⟨k, Nat.le_refl _, by omega, pa, ?_⟩
              rw [r7, pb, pc]
          · exact Or.inr ⟨l, by omega, by omega, l3, l4⟩
theorem oneF_ok {nu : Nat → Int32} {ri ro j w k0 : Nat} (hj : nB nu (ri + ro) j) (hw : nB nu (ri + ro) w) (hk0 : k0 < ri) (hk1 : 0 < nN nu w k0) (q : Int64 × Int64) :
    ((oneF nu ri ro j w q).1 = true ↔ gd nu ri ro j w) ∧ ((oneF nu ri ro j w q).1 = true → isR nu ri j w (oneF nu ri ro j w q).2.1.toInt (oneF nu ri ro j w q).2.2.toInt ∧ sm9 (oneF nu ri ro j w q).2.1 ∧ sm9 (oneF nu ri ro j w q).2.2) := by
  unfold oneF
  by_cases h : fitO nu j w ri ro = true
  · rw [if_pos h]
    have hf := (fitO_iff _ _).mp h
    obtain ⟨i1, i2⟩ := ofI_ok hj hw ri 0 (0, 1) (by omega) (by decide) (by decide) (by unfold sm9; decide) (by unfold sm9; decide)
    obtain ⟨R, hRe⟩ : ∃ R, R = ofI nu j w 0 ri (0, 1) := ⟨_, rfl⟩
    rw [← hRe] at i1 i2 ⊢
    have hg : R.1 = true → gd nu ri ro j w := fun z => ⟨hf, fun k hk e => i1.mp z k (Nat.zero_le _) (by omega) e⟩
    refine ⟨⟨hg, fun z => i1.mpr (fun l _ l2 l3 => z.2 l (by omega) l3)⟩, fun z => ?_⟩
    obtain ⟨r1, r2, r3, r4, r5, r6, r7⟩ := i2 z
    have hb : ∀ k, k < ri → nN nu j k * R.2.2.toInt ≤ R.2.1.toInt * nN nu w k := fun k hk => by
      by_cases e : nN nu w k = 0
      · rw [(hg z).2 k hk e, e, Int.zero_mul, Int.mul_zero]
        exact Int.le_refl _
      · exact r6 k (Nat.zero_le _) (by omega) (by have := hw k (by omega); omega)
    refine ⟨⟨r1, r2, hb, ?_⟩, r3, r4⟩
    rcases r7 with r7 | ⟨l, -, l2, l3, l4⟩
    · refine ⟨k0, hk0, hk1, ?_⟩
      have z0 := hb k0 hk0
      have e1 : R.2.1.toInt = 0 := by rw [r7]; decide
      have e2 : R.2.2.toInt = 1 := by rw [r7]; decide
      have j0 := hj k0 (by omega)
      rw [e1, e2] at z0 ⊢
      omega
    · exact ⟨l, by omega, l3, l4⟩
  · rw [if_neg h]
    refine ⟨⟨fun z => (by cases z), fun z => absurd ((fitO_iff _ _).mpr z.1) h⟩, fun z => (by cases z)⟩
/-- the least share of one work alone -/
def isMin (nu pt : Nat → Int32) (m ri ro w : Nat) (t b : Int) : Prop := (∃ o, o < m ∧ ¬ pt o = 0 ∧ gd nu ri ro o w ∧ isR nu ri o w t b) ∧ ∀ o, o < m → ¬ pt o = 0 → gd nu ri ro o w → ∀ t' b', isR nu ri o w t' b' → t * b' ≤ t' * b
theorem isMin_pos {nu pt : Nat → Int32} {m ri ro w : Nat} {t b : Int} (h : isMin nu pt m ri ro w t b) : 0 < b ∧ 0 ≤ t := by
  obtain ⟨⟨o, -, -, -, h1, h2, -⟩, -⟩ := h
  exact ⟨h1, h2⟩
theorem isMin_uniq {nu pt : Nat → Int32} {m ri ro w : Nat} {t b t' b' : Int} (h : isMin nu pt m ri ro w t b) (h' : isMin nu pt m ri ro w t' b') : t * b' = t' * b := by
  obtain ⟨⟨o, o1, o2, o3, o4⟩, o5⟩ := h
  obtain ⟨⟨p, p1, p2, p3, p4⟩, p5⟩ := h'
  have a := o5 p p1 p2 p3 t' b' p4
  have c := p5 o o1 o2 o3 t b o4
  omega
/-- a try of the class -/
def cand (nu pt : Nat → Int32) (ri ro w o k : Nat) : Prop := k < ri ∧ ¬ pt o = 0 ∧ 0 < nN nu w k ∧ fitsB nu ri ro o w (nu (o * 4 + k)).toInt64 (nu (w * 4 + k)).toInt64 = true
def sbV (nu pt : Nat → Int32) (ri ro w : Nat) (P : Nat → Nat → Prop) (tb : Int64 × Int64) : Prop := (tb = (0, 0) ∧ ∀ o k, P o k → ¬ cand nu pt ri ro w o k) ∨ ((∃ o k, P o k ∧ cand nu pt ri ro w o k ∧ tb = ((nu (o * 4 + k)).toInt64, (nu (w * 4 + k)).toInt64)) ∧ ∀ o k, P o k → cand nu pt ri ro w o k → tb.1.toInt * nN nu w k ≤ nN nu o k * tb.2.toInt)
theorem sbS_ok {nu pt : Nat → Int32} {ri ro w o i m : Nat} {P Q : Nat → Nat → Prop} {tb : Int64 × Int64} (hn : ∀ o, o < m → ¬ pt o = 0 → nB nu (ri + ro) o) (hw : nB nu (ri + ro) w) (hPm : ∀ o k, P o k → o < m) (ho : o < m) (hi : i < ri) (hQ : ∀ a c, Q a c ↔ (P a c ∨ (a = o ∧ c = i))) (h : sbV nu pt ri ro w P tb) : sbV nu pt ri ro w Q (sbS nu pt ri ro w o i tb) := by
  have s4 := nB9 hw (k := i) (by omega)
  have hpos : ∀ a c, cand nu pt ri ro w a c → 0 < nN nu w c := fun a c z => z.2.2.1
  unfold sbS
  by_cases c : ¬ pt o = 0 ∧ 0 < (nu (w * 4 + i)).toInt64 ∧ lsB (nu (o * 4 + i)).toInt64 (nu (w * 4 + i)).toInt64 tb.1 tb.2 = true ∧ fitsB nu ri ro o w (nu (o * 4 + i)).toInt64 (nu (w * 4 + i)).toInt64 = true
  · rw [if_pos c]
    obtain ⟨c1, c2, c3, c4⟩ := c
    have c2' : 0 < nN nu w i := by rw [← nN64]; exact (pos9 _).mp c2
    have s3 := nB9 (hn o ho c1) (k := i) (by omega)
    refine Or.inr ⟨⟨o, i, (hQ o i).mpr (Or.inr ⟨rfl, rfl⟩), ⟨hi, c1, c2', c4⟩, rfl⟩, fun a d hq hc => ?_⟩
    show (nu (o * 4 + i)).toInt64.toInt * nN nu w d ≤ nN nu a d * (nu (w * 4 + i)).toInt64.toInt
    rw [nN64, nN64]
    rcases (hQ a d).mp hq with hp | ⟨e1, e2⟩
    · rcases h with ⟨-, h2⟩ | ⟨⟨o', k', p1, p2, p3⟩, h2⟩
      · exact absurd hc (h2 a d hp)
      · have z := h2 a d hp hc
        have b0 : 0 < tb.2.toInt := by rw [p3]; show 0 < (nu (w * 4 + k')).toInt64.toInt; rw [nN64]; exact p2.2.2.1
        have s5 : sm9 tb.1 := by rw [p3]; exact nB9 (hn o' (hPm _ _ p1) p2.2.1) (k := k') (by have := p2.1; omega)
        have s6 : sm9 tb.2 := by rw [p3]; exact nB9 hw (k := k') (by have := p2.1; omega)
        have l : nN nu o i * tb.2.toInt ≤ tb.1.toInt * nN nu w i := by
          have := of_decide_eq_true c3
          rcases this with y | y
          · have := (zer9 _).mp y; omega
          · have y2 := (lt9 s3 s6 s5 s4).mp y
            rw [nN64, nN64] at y2
            omega
        exact rat_tr c2' b0 (hpos a d hc) l z
    · rw [e1, e2]; exact Int.le_refl _
  · rw [if_neg c]
    -- a try that is not taken: no try, or no less
    have hno : cand nu pt ri ro w o i → ¬ lsB (nu (o * 4 + i)).toInt64 (nu (w * 4 + i)).toInt64 tb.1 tb.2 = true := fun z y => c ⟨z.2.1, (pos9 _).mpr (by rw [nN64]; exact z.2.2.1), y, z.2.2.2⟩
    rcases h with ⟨h1, h2⟩ | ⟨⟨o', k', p1, p2, p3⟩, h2⟩
    · refine Or.inl ⟨h1, fun a d hq hc => ?_⟩
      rcases (hQ a d).mp hq with hp | ⟨e1, e2⟩
      · exact h2 a d hp hc
      · rw [e1, e2] at hc
        refine hno hc (decide_eq_true (Or.inl ?_))
        rw [h1]
    · refine Or.inr ⟨⟨o', k', (hQ _ _).mpr (Or.inl p1), p2, p3⟩, fun a d hq hc => ?_⟩
      rcases (hQ a d).mp hq with hp | ⟨e1, e2⟩
      · exact h2 a d hp hc
      · rw [e1, e2] at hc ⊢
        have s3 := nB9 (hn o ho hc.2.1) (k := i) (by omega)
        have s5 : sm9 tb.1 := by rw [p3]; exact nB9 (hn o' (hPm _ _ p1) p2.2.1) (k := k') (by have := p2.1; omega)
        have s6 : sm9 tb.2 := by rw [p3]; exact nB9 hw (k := k') (by have := p2.1; omega)
        refine Classical.byContradiction (fun y => hno hc (decide_eq_true (Or.inr ((lt9 s3 s6 s5 s4).mpr ?_))))
        rw [nN64, nN64]
        omega
theorem sbI_ok {nu pt : Nat → Int32} {ri ro w o m : Nat} (hn : ∀ o, o < m → ¬ pt o = 0 → nB nu (ri + ro) o) (hw : nB nu (ri + ro) w) (ho : o < m) : ∀ (n i : Nat) (tb : Int64 × Int64), i + n = ri → sbV nu pt ri ro w (fun a c => a < o ∨ (a = o ∧ c < i)) tb → sbV nu pt ri ro w (fun a c => a < o ∨ (a = o ∧ c < ri)) (sbI nu pt ri ro w o i n tb)
  | 0, i, tb, e, h => by
    rw [show i = ri by omega] at h
    exact h
  | n + 1, i, tb, e, h => by
    rw [sbI]
    refine sbI_ok hn hw ho n (i + 1) _ (by omega) ?_
    refine sbS_ok (P := fun a c => a < o ∨ (a = o ∧ c < i)) hn hw (fun a c z => ?_) ho (by omega) (fun a c => ?_) h
    · have z : a < o ∨ (a = o ∧ c < i) := z
      omega
    · show (a < o ∨ (a = o ∧ c < i + 1)) ↔ ((a < o ∨ (a = o ∧ c < i)) ∨ (a = o ∧ c = i))
      omega
theorem sbV_cg {nu pt : Nat → Int32} {ri ro w : Nat} {P Q : Nat → Nat → Prop} {tb : Int64 × Int64} (hPQ : ∀ a c, c < ri → (P a c ↔ Q a c)) (h : sbV nu pt ri ro w P tb) : sbV nu pt ri ro w Q tb := by
  rcases h with ⟨h1, h2⟩ | ⟨⟨o, k, p1, p2, p3⟩, h2⟩
  · exact Or.inl ⟨h1, fun a c hq hc => h2 a c ((hPQ a c hc.1).mpr hq) hc⟩
  · exact Or.inr ⟨⟨o, k, (hPQ o k p2.1).mp p1, p2, p3⟩, fun a c hq hc => h2 a c ((hPQ a c hc.1).mpr hq) hc⟩
theorem sbO_ok {nu pt : Nat → Int32} {ri ro w m : Nat} (hn : ∀ o, o < m → ¬ pt o = 0 → nB nu (ri + ro) o) (hw : nB nu (ri + ro) w) : ∀ (n o : Nat) (tb : Int64 × Int64), o + n = m → sbV nu pt ri ro w (fun a _ => a < o) tb → sbV nu pt ri ro w (fun a _ => a < m) (sbO nu pt ri ro w o n tb)
  | 0, o, tb, e, h => by
    rw [show o = m by omega] at h
    exact h
  | n + 1, o, tb, e, h => by
    rw [sbO]
    refine sbO_ok hn hw n (o + 1) _ (by omega) ?_
    refine sbV_cg (P := fun a c => a < o ∨ (a = o ∧ c < ri)) (fun a c hc => ?_) (sbI_ok hn hw (show o < m by omega) ri 0 tb (by omega) (sbV_cg (P := fun a _ => a < o) (fun a c hc => ?_) h))
    · show (a < o ∨ (a = o ∧ c < ri)) ↔ a < o + 1
      omega
    · show a < o ↔ (a < o ∨ (a = o ∧ c < 0))
      omega
theorem isR_cand {nu pt : Nat → Int32} {ri ro o w k : Nat} (ho : nB nu (ri + ro) o) (hw : nB nu (ri + ro) w) (h : cand nu pt ri ro w o k) : gd nu ri ro o w ∧ isR nu ri o w (nN nu o k) (nN nu w k) := by
  obtain ⟨h1, h2, h3, h4⟩ := h
  have s3 := nB9 ho (k := k) (by omega)
  have s4 := nB9 hw (k := k) (by omega)
  refine ⟨fits_gd ho hw s3 s4 (by rw [nN64]; exact h3) h4, h3, (ho k (by omega)).1, fun l hl => ?_, k, h1, h3, rfl⟩
  have := ((fits_int ho hw s3 s4).mp h4).2 l hl
  rw [nN64, nN64] at this
  rw [Int.mul_comm (nN nu o k)]
  exact this
theorem class_min {nu pt : Nat → Int32} {ri ro w k0 : Nat} (hn : ∀ o, o < 12 → ¬ pt o = 0 → nB nu (ri + ro) o) (hw : nB nu (ri + ro) w) (hk0 : k0 < ri) (hk1 : 0 < nN nu w k0) :
    (sbO nu pt ri ro w 0 12 (0, 0) = (0, 0) ∧ ∀ o, o < 12 → ¬ pt o = 0 → ¬ gd nu ri ro o w) ∨ (isMin nu pt 12 ri ro w (sbO nu pt ri ro w 0 12 (0, 0)).1.toInt (sbO nu pt ri ro w 0 12 (0, 0)).2.toInt ∧ sm9 (sbO nu pt ri ro w 0 12 (0, 0)).1 ∧ sm9 (sbO nu pt ri ro w 0 12 (0, 0)).2) := by
  have key : ∀ o, o < 12 → ¬ pt o = 0 → gd nu ri ro o w → ∃ k, cand nu pt ri ro w o k := fun o ho hp hg => by
    have q := oneF_ok (hn o ho hp) hw hk0 hk1 (0, 0)
    obtain ⟨hr, -, -⟩ := q.2 (q.1.mpr hg)
    have hr' := hr
    obtain ⟨b0, t0, ha, k, k1, k2, k3⟩ := hr
    refine ⟨k, k1, hp, k2, (fits_iff (hn o ho hp) hw (nB9 (hn o ho hp) (by omega)) (nB9 hw (by omega)) (by rw [nN64]; exact k2) hg hr').mpr ?_⟩
    rw [nN64, nN64]
    omega
  have h := sbO_ok hn hw 12 0 (0, 0) rfl (Or.inl ⟨rfl, fun o k z => absurd z (Nat.not_lt_zero _)⟩)
  obtain ⟨tb, htb⟩ : ∃ tb, tb = sbO nu pt ri ro w 0 12 (0, 0) := ⟨_, rfl⟩
  rw [← htb] at h ⊢
  rcases h with ⟨h1, h2⟩ | ⟨⟨o, k, p1, p2, p3⟩, h2⟩
  · refine Or.inl ⟨h1, fun o ho hp hg => ?_⟩
    obtain ⟨k, hk⟩ := key o ho hp hg
    exact h2 o k ho hk
  · have p1 : o < 12 := p1
    have ho := hn o p1 p2.2.1
    have e1 : tb.1.toInt = nN nu o k := by rw [p3]; exact nN64 _ _ _
    have e2 : tb.2.toInt = nN nu w k := by rw [p3]; exact nN64 _ _ _
    obtain ⟨g1, g2⟩ := isR_cand ho hw p2
    have := p2.1
    refine Or.inr ⟨⟨⟨o, p1, p2.2.1, g1, by rw [e1, e2]; exact g2⟩, fun o' q1 q2 q3 t' b' q4 => ?_⟩, by rw [p3]; exact nB9 ho (by omega), by rw [p3]; exact nB9 hw (by omega)⟩
    obtain ⟨k', hk'⟩ := key o' q1 q2 q3
    have z := h2 o' k' q1 hk'
    have u := isR_uniq (isR_cand (hn o' q1 q2) hw hk').2 q4
    have hk3 := hk'.2.2.1
    have b0 : 0 < tb.2.toInt := by rw [e2]; exact p2.2.2.1
    exact rat_tr b0 hk3 q4.1 z (by omega)
def whV (nu am : Nat → Int32) (ri ro w J : Nat) (q : WS) : Prop := (q.1 = false ∧ ∀ o, o < J → ¬ am o = 0 → ¬ gd nu ri ro o w) ∨ (q.1 = true ∧ isMin nu am J ri ro w q.2.1.toInt q.2.2.1.toInt ∧ sm9 q.2.1 ∧ sm9 q.2.2.1)
theorem whS_ok {nu am : Nat → Int32} {ri ro w j k0 : Nat} {q : WS} (hj : ¬ am j = 0 → nB nu (ri + ro) j) (hw : nB nu (ri + ro) w) (hk0 : k0 < ri) (hk1 : 0 < nN nu w k0) (h : whV nu am ri ro w j q) : whV nu am ri ro w (j + 1) (whS nu am ri ro w j q) := by
  unfold whS
  by_cases ha : am j = 0
  · rw [if_pos ha]
    rcases h with ⟨h1, h2⟩ | ⟨h1, ⟨⟨o, o1, o2, o3, o4⟩, h3⟩, h4⟩
    · refine Or.inl ⟨h1, fun o ho hp => ?_⟩
      by_cases e : o = j
      · rw [e] at hp; exact absurd ha hp
      · exact h2 o (by omega) hp
    · refine Or.inr ⟨h1, ⟨⟨o, by omega, o2, o3, o4⟩, fun o' q1 q2 => ?_⟩, h4⟩
      by_cases e : o' = j
      · rw [e] at q2; exact absurd ha q2
      · exact h3 o' (by omega) q2
  · rw [if_neg ha]
    obtain ⟨r1, r2⟩ := oneF_ok (hj ha) hw hk0 hk1 q.2.2.2
    obtain ⟨R, hRe⟩ : ∃ R, R = oneF nu ri ro j w q.2.2.2 := ⟨_, rfl⟩
    rw [← hRe] at r1 r2 ⊢
    unfold whE
    by_cases c : R.1 = false ∨ (q.1 = true ∧ ¬ R.2.1 * q.2.2.1 < q.2.1 * R.2.2)
    · rw [if_pos c]
      rcases h with ⟨h1, h2⟩ | ⟨h1, ⟨⟨o, o1, o2, o3, o4⟩, h3⟩, h4, h5⟩
      · refine Or.inl ⟨h1, fun o ho hp hg => ?_⟩
        by_cases e : o = j
        · rw [e] at hg
          rcases c with c | c
          · rw [r1.mpr hg] at c; cases c
          · rw [h1] at c; cases c.1
        · exact h2 o (by omega) hp hg
      · refine Or.inr ⟨h1, ⟨⟨o, by omega, o2, o3, o4⟩, fun o' q1 q2 q3 t' b' q4 => ?_⟩, h4, h5⟩
        show q.2.1.toInt * b' ≤ t' * q.2.2.1.toInt
        by_cases e : o' = j
        · rw [e] at q3 q4
          have hr := r1.mpr q3
          obtain ⟨i1, i2, i3⟩ := r2 hr
          have z : ¬ R.2.1 * q.2.2.1 < q.2.1 * R.2.2 := by
            rcases c with c | c
            · rw [hr] at c; cases c
            · exact c.2
          rw [lt9 i2 h5 h4 i3] at z
          have u := isR_uniq i1 q4
          exact rat_tr o4.1 i1.1 q4.1 (show q.2.1.toInt * R.2.2.toInt ≤ R.2.1.toInt * q.2.2.1.toInt by omega) (by omega)
        · exact h3 o' (by omega) q2 q3 t' b' q4
    · rw [if_neg c]
      have hr : R.1 = true := by
        cases e : R.1 with
        | true => rfl
        | false => exact absurd (Or.inl e) c
      obtain ⟨i1, i2, i3⟩ := r2 hr
      refine Or.inr ⟨rfl, ⟨⟨j, by omega, ha, r1.mp hr, i1⟩, fun o' q1 q2 q3 t' b' q4 => ?_⟩, i2, i3⟩
      show R.2.1.toInt * b' ≤ t' * R.2.2.toInt
      by_cases e : o' = j
      · rw [e] at q4
        have := isR_uniq i1 q4
        omega
      · rcases h with ⟨h1, h2⟩ | ⟨h1, ⟨⟨o, o1, o2, o3, o4⟩, h3⟩, h4, h5⟩
        · exact absurd q3 (h2 o' (by omega) q2)
        · have z : R.2.1 * q.2.2.1 < q.2.1 * R.2.2 := Classical.byContradiction (fun y => c (Or.inr ⟨h1, y⟩))
          rw [lt9 i2 h5 h4 i3] at z
          exact rat_tr i1.1 o4.1 q4.1 (by omega) (h3 o' (by omega) q2 q3 t' b' q4)
theorem whF_ok {nu am : Nat → Int32} {ri ro w k0 m : Nat} (hn : ∀ o, o < m → ¬ am o = 0 → nB nu (ri + ro) o) (hw : nB nu (ri + ro) w) (hk0 : k0 < ri) (hk1 : 0 < nN nu w k0) : ∀ (n j : Nat) (q : WS), j + n = m → whV nu am ri ro w j q → whV nu am ri ro w m (whF nu am ri ro w j n q)
  | 0, j, q, e, h => by
    rw [show j = m by omega] at h
    exact h
  | n + 1, j, q, e, h => by
    rw [whF]
    exact whF_ok hn hw hk0 hk1 n (j + 1) _ (by omega) (whS_ok (hn j (by omega)) hw hk0 hk1 h)
theorem gd_cg {nu nu' : Nat → Int32} {ri ro o w : Nat} (ho : ∀ k, k < ri + ro → nN nu o k = nN nu' o k) (hw : ∀ k, k < ri + ro → nN nu w k = nN nu' w k) (h : gd nu ri ro o w) : gd nu' ri ro o w := by
  refine ⟨fun k h1 h2 => ?_, fun k h1 h2 => ?_⟩
  · rw [← ho k h2, ← hw k h2]; exact h.1 k h1 h2
  · rw [← hw k (by omega)] at h2
    rw [← ho k (by omega)]; exact h.2 k h1 h2
theorem isR_cg {nu nu' : Nat → Int32} {ri ro o w : Nat} {t b : Int} (ho : ∀ k, k < ri + ro → nN nu o k = nN nu' o k) (hw : ∀ k, k < ri + ro → nN nu w k = nN nu' w k) (h : isR nu ri o w t b) : isR nu' ri o w t b := by
  obtain ⟨b0, t0, ha, k, k1, k2, k3⟩ := h
  refine ⟨b0, t0, fun l hl => ?_, k, k1, ?_, ?_⟩
  · rw [← ho l (by omega), ← hw l (by omega)]; exact ha l hl
  · rw [← hw k (by omega)]; exact k2
  · rw [← ho k (by omega), ← hw k (by omega)]; exact k3
theorem isMin_cg {nu nu' pt am : Nat → Int32} {m mw ri ro w : Nat} {t b : Int} (hm : ∀ o, (o < m ∧ ¬ am o = 0) ↔ (o < mw ∧ ¬ pt o = 0)) (ho : ∀ o, o < m → ¬ am o = 0 → ∀ k, k < ri + ro → nN nu' o k = nN nu o k) (hw : ∀ k, k < ri + ro → nN nu' w k = nN nu w k) (h : isMin nu' am m ri ro w t b) : isMin nu pt mw ri ro w t b := by
  obtain ⟨⟨o, o1, o2, o3, o4⟩, h3⟩ := h
  obtain ⟨p1, p2⟩ := (hm o).mp ⟨o1, o2⟩
  refine ⟨⟨o, p1, p2, gd_cg (ho o o1 o2) hw o3, isR_cg (ro := ro) (ho o o1 o2) hw o4⟩, fun o' q1 q2 q3 t' b' q4 => ?_⟩
  obtain ⟨r1, r2⟩ := (hm o').mpr ⟨q1, q2⟩
  exact h3 o' r1 r2 (gd_cg (fun k hk => (ho o' r1 r2 k hk).symm) (fun k hk => (hw k hk).symm) q3) t' b' (isR_cg (ro := ro) (fun k hk => (ho o' r1 r2 k hk).symm) (fun k hk => (hw k hk).symm) q4)
theorem gd_self (nu : Nat → Int32) (ri ro w : Nat) : gd nu ri ro w w := ⟨fun _ _ _ => Int.le_refl _, fun _ _ h => h⟩
theorem whole_same {nu pt pt0 nu' am : Nat → Int32} {ri ro mw w : Nat} (hR : rowsOK nu pt pt0 nu' am ri ro mw w) (tp bl wt wb : Int64) :
    (pt w = 0 ∧ (whF nu' am ri ro w 0 mw (false, tp, bl, wt, wb)).1 = false ∧ frB (sbO nu pt ri ro w 0 12 (0, 0)).1 (sbO nu pt ri ro w 0 12 (0, 0)).2 = 0) ∨
    ((whF nu' am ri ro w 0 mw (false, tp, bl, wt, wb)).1 = true ∧ frac (frT (sbO nu pt ri ro w 0 12 (0, 0)).1 (sbO nu pt ri ro w 0 12 (0, 0)).2) (frB (sbO nu pt ri ro w 0 12 (0, 0)).1 (sbO nu pt ri ro w 0 12 (0, 0)).2) (whF nu' am ri ro w 0 mw (false, tp, bl, wt, wb)).2.1 (whF nu' am ri ro w 0 mw (false, tp, bl, wt, wb)).2.2.1 ∧ isMin nu pt 12 ri ro w (whF nu' am ri ro w 0 mw (false, tp, bl, wt, wb)).2.1.toInt (whF nu' am ri ro w 0 mw (false, tp, bl, wt, wb)).2.2.1.toInt) := by
  obtain ⟨⟨hri, hri2⟩, ⟨hro, hro2⟩, hM0, hsub, hw, hw0, ⟨ha1, ha2, ha3⟩, haw, hnn, k0, hk0, hk1⟩ := hR
  have hwE : ∀ k, k < ri + ro → nN nu' w k = nN nu w k := fun k hk => congrArg Int32.toInt (haw k hk).symm
  have hoE : ∀ o, o < mw → ¬ am o = 0 → ∀ k, k < ri + ro → nN nu' o k = nN nu o k := fun o h1 h2 k hk => congrArg Int32.toInt (ha3 o h1 h2 k hk).symm
  have hn : ∀ o, o < 12 → ¬ pt o = 0 → nB nu (ri + ro) o := fun o h1 h2 => hnn o h1 (hsub o h1 h2)
  have hwB : nB nu (ri + ro) w := hnn w hw hw0
  have hwB' : nB nu' (ri + ro) w := fun k hk => by rw [hwE k hk]; exact hwB k hk
  have hm : ∀ o, (o < mw ∧ ¬ am o = 0) ↔ (o < 12 ∧ ¬ pt o = 0) := fun o => ⟨fun z => ⟨by omega, (ha2 o (by omega)).mpr z⟩, fun z => (ha2 o z.1).mp z.2⟩
  have hn' : ∀ o, o < mw → ¬ am o = 0 → nB nu' (ri + ro) o := fun o h1 h2 k hk => by
    rw [hoE o h1 h2 k hk]
    exact hn o (by omega) ((hm o).mp ⟨h1, h2⟩).2 k hk
  have C := class_min hn hwB hk0 hk1
  have Wf := whF_ok (am := am) hn' hwB' hk0 (by rw [hwE k0 (by omega)]; exact hk1) mw 0 (false, tp, bl, wt, wb) (by omega) (Or.inl ⟨rfl, fun o z => absurd z (Nat.not_lt_zero _)⟩)
  obtain ⟨tb, htb⟩ : ∃ tb, tb = sbO nu pt ri ro w 0 12 (0, 0) := ⟨_, rfl⟩
  obtain ⟨r, hr⟩ : ∃ r, r = whF nu' am ri ro w 0 mw (false, tp, bl, wt, wb) := ⟨_, rfl⟩
  rw [← htb] at C ⊢
  rw [← hr] at Wf ⊢
  rcases Wf with ⟨w1, w2⟩ | ⟨w1, w2, w3, w4⟩
  · have hno : ∀ o, o < 12 → ¬ pt o = 0 → ¬ gd nu ri ro o w := fun o h1 h2 h3 => by
      obtain ⟨q1, q2⟩ := (hm o).mpr ⟨h1, h2⟩
      exact w2 o q1 q2 (gd_cg (fun k hk => (hoE o q1 q2 k hk).symm) (fun k hk => (hwE k hk).symm) h3)
    refine Or.inl ⟨Classical.byContradiction (fun q => hno w hw q (gd_self _ _ _ _)), w1, ?_⟩
    rcases C with ⟨c1, -⟩ | ⟨⟨⟨o, o1, o2, o3, -⟩, -⟩, -⟩
    · rw [c1]; decide
    · exact absurd o3 (hno o o1 o2)
  · have w2' := isMin_cg hm hoE hwE w2
    refine Or.inr ⟨w1, ?_, w2'⟩
    rcases C with ⟨-, c2⟩ | ⟨c1, c2, c3⟩
    · obtain ⟨⟨o, o1, o2, o3, -⟩, -⟩ := w2'
      exact absurd o3 (c2 o o1 o2)
    · have p1 := isMin_pos c1
      have p2 := isMin_pos w2'
      exact frac_tr (frac_self c2 c3 p1.1 p1.2) w3 w4 p2.1 p2.2 (isMin_uniq c1 w2')
end WHOLEV
