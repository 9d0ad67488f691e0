/-! ANSWERS ALIKE: strong, peer -/
section ANSB
theorem wtM_bt {ray : Nat → Int64} {tg nu : Nat → Int32} {w ki kt : Nat} {x0 x1 : Int64} {j : Nat} (hj : j < 32) : ∀ (n i : Nat) (v : Int32), bt (wtM ray tg nu w ki kt x0 x1 i n v) j = true ↔ (bt v j = true ∨ ∃ r, i ≤ r ∧ r < i + n ∧ bstB ray nu w ki kt x0 x1 r = true ∧ bt (tg r) j = false)
  | 0, i, v => ⟨fun z => Or.inl z, fun z => z.elim id (fun ⟨r, h1, h2, _⟩ => by omega)⟩
  | n + 1, i, v => by
    rw [wtM, wtM_bt hj n (i + 1)]
    by_cases c : bstB ray nu w ki kt x0 x1 i = true
    · rw [if_pos c, b_or, b_not hj, Bool.or_eq_true, Bool.not_eq_true']
      constructor
      · rintro ((z | z) | ⟨r, r1, r2, r3⟩)
        · exact Or.inl z
        · exact Or.inr ⟨i, Nat.le_refl _, by omega, c, z⟩
        · exact Or.inr ⟨r, by omega, by omega, r3⟩
      · rintro (z | ⟨r, r1, r2, r3, r4⟩)
        · exact Or.inl (Or.inl z)
        · by_cases e : r = i
          · rw [e] at r4; exact Or.inl (Or.inr r4)
          · exact Or.inr ⟨r, by omega, by omega, r3, r4⟩
    · rw [if_neg c]
      constructor
      · rintro (z | ⟨r, r1, r2, r3⟩)
        · exact Or.inl z
        · exact Or.inr ⟨r, by omega, by omega, r3⟩
      · rintro (z | ⟨r, r1, r2, r3, r4⟩)
        · exact Or.inl z
        · by_cases e : r = i
          · rw [e] at r3; exact absurd r3 c
          · exact Or.inr ⟨r, by omega, by omega, r3, r4⟩
theorem wtB_iff {nu : Nat → Int32} {ri ro w : Nat} {c : Cn} {x0 x1 : Int64} (ht : ri + ro ≤ 4) : wtB nu ri ro w c x0 x1 = true ↔ ∀ k, k < ri + ro → ∃ r, r < c.2.2.2.1 ∧ bstB c.2.2.2.2.2.1 nu w ri (ri + ro) x0 x1 r = true ∧ bt (c.2.2.2.2.2.2.1 r) k = false := by
  unfold wtB
  rw [decide_eq_true_iff, b_sup]
  constructor
  · intro q k hk
    have z := q k (by omega) (by rw [b_axM ht (by omega)]; exact decide_eq_true hk)
    rcases (wtM_bt (by omega) _ _ _).mp z with y | ⟨r, -, r2, r3⟩
    · rw [b_0] at y; cases y
    · exact ⟨r, by omega, r3⟩
  · intro q k hk hb
    rw [b_axM ht hk] at hb
    obtain ⟨r, r1, r2⟩ := q k (of_decide_eq_true hb)
    exact (wtM_bt hk _ _ _).mpr (Or.inr ⟨r, Nat.zero_le _, by omega, r2⟩)
theorem msW_iff {sd : Nat → Int64} {nu : Nat → Int32} {ni no w : Nat} {tp bl : Int64} {k : Nat} : ∀ (n i : Nat) (q : Bool), msW sd nu ni no w tp bl k i n q = true ↔ (q = true ∨ ∃ r, i ≤ r ∧ r < i + n ∧ 0 < sd (r * 5 + k) ∧ outsW sd nu r w 4 ni no * bl = tp * insW sd nu r w ni)
  | 0, i, q => ⟨fun z => Or.inl z, fun z => z.elim id (fun ⟨r, h1, h2, _⟩ => by omega)⟩
  | n + 1, i, q => by
    rw [msW, msW_iff n (i + 1), Bool.or_eq_true, Bool.and_eq_true, decide_eq_true_iff, decide_eq_true_iff]
    constructor
    · rintro ((z | z) | ⟨r, r1, r2, r3⟩)
      · exact Or.inl z
      · exact Or.inr ⟨i, Nat.le_refl _, by omega, z⟩
      · exact Or.inr ⟨r, by omega, by omega, r3⟩
    · rintro (z | ⟨r, r1, r2, r3⟩)
      · exact Or.inl (Or.inl z)
      · by_cases e : r = i
        · rw [e] at r3; exact Or.inl (Or.inr r3)
        · exact Or.inr ⟨r, by omega, by omega, r3⟩
theorem msK_iff {sd : Nat → Int64} {nu : Nat → Int32} {ni no w : Nat} {tp bl : Int64} {ns : Nat} : ∀ (n k : Nat), msK sd nu ni no w tp bl ns k n = true ↔ ∀ j, k ≤ j → j < k + n → ∃ r, r < ns ∧ 0 < sd (r * 5 + j) ∧ outsW sd nu r w 4 ni no * bl = tp * insW sd nu r w ni
  | 0, k => ⟨fun _ j h1 h2 => by omega, fun _ => rfl⟩
  | n + 1, k => by
    rw [msK]
    have e : msW sd nu ni no w tp bl k 0 ns false = true ↔ ∃ r, r < ns ∧ 0 < sd (r * 5 + k) ∧ outsW sd nu r w 4 ni no * bl = tp * insW sd nu r w ni := by
      rw [msW_iff]
      constructor
      · rintro (z | ⟨r, -, r2, r3⟩)
        · cases z
        · exact ⟨r, by omega, r3⟩
      · rintro ⟨r, r2, r3⟩
        exact Or.inr ⟨r, Nat.zero_le _, by omega, r3⟩
    by_cases c : msW sd nu ni no w tp bl k 0 ns false = true
    · rw [if_pos c, msK_iff n (k + 1)]
      constructor
      · intro q j h1 h2
        by_cases g : j = k
        · rw [g]; exact e.mp c
        · exact q j (by omega) (by omega)
      · intro q j h1 h2
        exact q j (by omega) (by omega)
    · rw [if_neg c]
      exact ⟨fun z => (by cases z), fun q => absurd (e.mpr (q k (Nat.le_refl _) (by omega))) c⟩
theorem twB_iff {ray : Nat → Int64} {tg nu : Nat → Int32} {w ki kt : Nat} {x0 x1 : Int64} {bd : Int32} : ∀ (n i : Nat), twB ray tg nu w ki kt x0 x1 bd i n = true ↔ ∀ r, i ≤ r → r < i + n → ¬ (tg r &&& bd = 0 ∧ bstB ray nu w ki kt x0 x1 r = true)
  | 0, i => ⟨fun _ r h1 h2 => by omega, fun _ => rfl⟩
  | n + 1, i => by
    rw [twB]
    by_cases c : tg i &&& bd = 0 ∧ bstB ray nu w ki kt x0 x1 i = true
    · rw [if_pos c]
      exact ⟨fun z => (by cases z), fun q => absurd c (q i (Nat.le_refl _) (by omega))⟩
    · rw [if_neg c, twB_iff n (i + 1)]
      constructor
      · intro q r h1 h2
        by_cases e : r = i
        · rw [e]; exact c
        · exact q r (by omega) (by omega)
      · intro q r h1 h2
        exact q r (by omega) (by omega)
theorem mpL_iff {sd : Nat → Int64} {nu : Nat → Int32} {ni no w o : Nat} {tp bl : Int64} : ∀ (n i : Nat), mpL sd nu ni no w o tp bl i n = true ↔ ∀ r, i ≤ r → r < i + n → ¬ (outsW sd nu r w 4 ni no * bl = tp * insW sd nu r w ni ∧ ¬ outsW sd nu r o 4 ni no = insW sd nu r o ni)
  | 0, i => ⟨fun _ r h1 h2 => by omega, fun _ => rfl⟩
  | n + 1, i => by
    rw [mpL]
    by_cases c : outsW sd nu i w 4 ni no * bl = tp * insW sd nu i w ni ∧ ¬ outsW sd nu i o 4 ni no = insW sd nu i o ni
    · rw [if_pos c]
      exact ⟨fun z => (by cases z), fun q => absurd c (q i (Nat.le_refl _) (by omega))⟩
    · rw [if_neg c, mpL_iff n (i + 1)]
      constructor
      · intro q r h1 h2
        by_cases e : r = i
        · rw [e]; exact c
        · exact q r (by omega) (by omega)
      · intro q r h1 h2
        exact q r (by omega) (by omega)
theorem bd_iff {x : Int32} {o : Nat} (ho : o < 12) : x &&& bdW o = 0 ↔ bt x (5 + o) = false := by
  rw [b_dis]
  constructor
  · intro q
    cases e : bt x (5 + o) with
    | false => rfl
    | true =>
      have := q (5 + o) (by omega) e
      rw [b_bdW ho (by omega), decide_eq_true rfl] at this
      cases this
  · intro q i hi hx
    rw [b_bdW ho hi]
    refine decide_eq_false (fun z => ?_)
    rw [z, q] at hx
    cases hx
/-- the view of one work alone: who is matched -/
theorem mtch_iff {nu pt : Nat → Int32} {ri ro w : Nat} : ∀ (n i : Nat), mtch nu pt ri ro w i n = true ↔ ∀ o, i ≤ o → o < i + n → ¬ pt o = 0 → fitsB nu ri ro o w 1 1 = true → fitsB nu ri ro w o 1 1 = true
  | 0, i => ⟨fun _ r h1 h2 => by omega, fun _ => rfl⟩
  | n + 1, i => by
    rw [mtch]
    by_cases c : ¬ pt i = 0 ∧ fitsB nu ri ro i w 1 1 = true ∧ fitsB nu ri ro w i 1 1 = false
    · rw [if_pos c]
      refine ⟨fun z => (by cases z), fun q => ?_⟩
      have := q i (Nat.le_refl _) (by omega) c.1 c.2.1
      rw [c.2.2] at this
      cases this
    · rw [if_neg c, mtch_iff n (i + 1)]
      constructor
      · intro q o h1 h2 h3 h4
        by_cases e : o = i
        · rw [e] at h3 h4 ⊢
          cases z : fitsB nu ri ro w i 1 1 with
          | true => rfl
          | false => exact absurd ⟨h3, h4, z⟩ c
        · exact q o (by omega) (by omega) h3 h4
      · intro q o h1 h2
        exact q o (by omega) (by omega)
theorem alkB_iff {nu : Nat → Int32} {a b : Nat} : ∀ (n k : Nat) (q : Bool), alkB nu a b k n q = true ↔ (q = true ∧ ∀ j, k ≤ j → j < k + n → nu (a * 4 + j) = nu (b * 4 + j))
  | 0, k, q => ⟨fun z => ⟨z, fun j h1 h2 => by omega⟩, fun z => z.1⟩
  | n + 1, k, q => by
    rw [alkB, alkB_iff n (k + 1), Bool.and_eq_true, decide_eq_true_iff]
    constructor
    · rintro ⟨⟨z1, z2⟩, z3⟩
      refine ⟨z1, fun j h1 h2 => ?_⟩
      by_cases e : j = k
      · rw [e]; exact z2
      · exact z3 j (by omega) (by omega)
    · rintro ⟨z1, z2⟩
      exact ⟨⟨z1, z2 k (Nat.le_refl _) (by omega)⟩, fun j h1 h2 => z2 j (by omega) (by omega)⟩
theorem isR_11 {nu : Nat → Int32} {ri o w : Nat} {t b : Int} (h : isR nu ri o w t b) : t = b ↔ isR nu ri o w 1 1 := by
  constructor
  · intro e
    obtain ⟨b0, t0, ha, k, k1, k2, k3⟩ := h
    rw [e] at ha k3
    refine ⟨by decide, by decide, fun l hl => ?_, k, k1, k2, ?_⟩
    · have z := ha l hl
      rw [Int.mul_comm] at z
      have := Int.le_of_mul_le_mul_left z b0
      omega
    · rw [Int.mul_comm (nN nu o k)] at k3
      have := Int.eq_of_mul_eq_mul_left (by omega) k3
      omega
  · intro e
    have := isR_uniq h e
    omega
theorem msT_iff {nu am : Nat → Int32} {ri ro w k0 m : Nat} (hn : ∀ o, o < m → ¬ am o = 0 → nB nu (ri + ro) o) (hw : nB nu (ri + ro) w) (hk0 : k0 < ri) (hk1 : 0 < nN nu w k0) : ∀ (n j : Nat) (q : Int64 × Int64), j + n = m → (msT nu am ri ro w j n q = true ↔ ∀ o, j ≤ o → o < m → ¬ am o = 0 → gd nu ri ro o w → isR nu ri o w 1 1 → ∀ k, k < ri + ro → nu (o * 4 + k) = nu (w * 4 + k))
  | 0, j, q, e => ⟨fun _ o h1 h2 => by omega, fun _ => rfl⟩
  | n + 1, j, q, e => by
    rw [msT]
    by_cases ha : am j = 0
    · rw [if_pos ha, msT_iff hn hw hk0 hk1 n (j + 1) q (by omega)]
      constructor
      · intro z o h1 h2 h3
        by_cases g : o = j
        · rw [g] at h3; exact absurd ha h3
        · exact z o (by omega) h2 h3
      · intro z o h1 h2
        exact z o (by omega) h2
    · rw [if_neg ha]
      obtain ⟨r1, r2⟩ := oneF_ok (hn j (by omega) ha) hw hk0 hk1 q
      obtain ⟨R, hRe⟩ : ∃ R, R = oneF nu ri ro j w q := ⟨_, rfl⟩
      rw [← hRe] at r1 r2 ⊢
      have hal : alkB nu j w 0 (ri + ro) true = true ↔ ∀ k, k < ri + ro → nu (j * 4 + k) = nu (w * 4 + k) := by
        rw [alkB_iff]
        exact ⟨fun z k hk => z.2 k (Nat.zero_le _) (by omega), fun z => ⟨rfl, fun k _ hk => z k (by omega)⟩⟩
      by_cases c : R.1 = true ∧ R.2.1 = R.2.2 ∧ alkB nu j w 0 (ri + ro) true = false
      · rw [if_pos c]
        refine ⟨fun z => (by cases z), fun z => ?_⟩
        obtain ⟨i1, -, -⟩ := r2 c.1
        have y := z j (Nat.le_refl _) (by omega) ha (r1.mp c.1) ((isR_11 i1).mp (by rw [c.2.1]))
        rw [hal.mpr y] at c
        cases c.2.2
      · rw [if_neg c, msT_iff hn hw hk0 hk1 n (j + 1) _ (by omega)]
        constructor
        · intro z o h1 h2 h3 h4 h5
          by_cases g : o = j
          · rw [g] at h4 h5 ⊢
            refine hal.mp ?_
            cases y : alkB nu j w 0 (ri + ro) true with
            | true => rfl
            | false =>
              have hr := r1.mpr h4
              obtain ⟨i1, -, -⟩ := r2 hr
              exact absurd ⟨hr, (i64_eq _ _).mpr ((isR_11 i1).mpr h5), y⟩ c
          · exact z o (by omega) h2 h3 h4 h5
        · intro z o h1 h2
          exact z o (by omega) h2
/-- the rows of the view of one work alone -/
theorem rows_B {nu pt pt0 nu' am : Nat → Int32} {ri ro mw w : Nat} (hR : rowsOK nu pt pt0 nu' am ri ro mw w) : (∀ o, o < 12 → ¬ pt o = 0 → nB nu (ri + ro) o) ∧ nB nu (ri + ro) w ∧ (∀ o, o < mw → ¬ am o = 0 → nB nu' (ri + ro) o) ∧ nB nu' (ri + ro) w ∧ (∃ k, k < ri ∧ 0 < nN nu w k) ∧ (∃ k, k < ri ∧ 0 < nN nu' w k) ∧ (∀ k, k < ri + ro → nN nu' w k = nN nu w k) ∧ (∀ o, o < mw → ¬ am o = 0 → ∀ k, k < ri + ro → nN nu' o k = nN nu o k) ∧ ∀ o, (o < mw ∧ ¬ am o = 0) ↔ (o < 12 ∧ ¬ pt o = 0) := by
  obtain ⟨⟨hri, hri2⟩, ⟨hro, hro2⟩, hM0, hsub, hw, hw0, ⟨ha1, ha2, ha3⟩, haw, hnn, k0, hk0, hk1⟩ := hR
  have hwE : ∀ k, k < ri + ro → nN nu' w k = nN nu w k := fun k hk => congrArg Int32.toInt (haw k hk).symm
  have hoE : ∀ o, o < mw → ¬ am o = 0 → ∀ k, k < ri + ro → nN nu' o k = nN nu o k := fun o h1 h2 k hk => congrArg Int32.toInt (ha3 o h1 h2 k hk).symm
  have hn : ∀ o, o < 12 → ¬ pt o = 0 → nB nu (ri + ro) o := fun o h1 h2 => hnn o h1 (hsub o h1 h2)
  have hm : ∀ o, (o < mw ∧ ¬ am o = 0) ↔ (o < 12 ∧ ¬ pt o = 0) := fun o => ⟨fun z => ⟨by omega, (ha2 o (by omega)).mpr z⟩, fun z => (ha2 o z.1).mp z.2⟩
  have hwB : nB nu (ri + ro) w := hnn w hw hw0
  refine ⟨hn, hwB, fun o h1 h2 k hk => ?_, fun k hk => ?_, ⟨k0, hk0, hk1⟩, ⟨k0, hk0, ?_⟩, hwE, hoE, hm⟩
  · rw [hoE o h1 h2 k hk]
    exact hn o (by omega) ((hm o).mp ⟨h1, h2⟩).2 k hk
  · rw [hwE k hk]; exact hwB k hk
  · rw [hwE k0 (by omega)]; exact hk1
theorem one_9 : sm9 (1 : Int64) := by unfold sm9; decide
theorem mtch_same {nu pt pt0 nu' am : Nat → Int32} {ri ro mw w : Nat} {t : Int} (hR : rowsOK nu pt pt0 nu' am ri ro mw w) (hmin : isMin nu pt 12 ri ro w t t) (q : Int64 × Int64) : mtch nu pt ri ro w 0 12 = msT nu' am ri ro w 0 mw q := by
  obtain ⟨hn, hwB, hn', hwB', ⟨k0, hk0, hk1⟩, ⟨k0', hk0', hk1'⟩, hwE, hoE, hm⟩ := rows_B hR
  rw [Bool.eq_iff_iff, mtch_iff, msT_iff hn' hwB' hk0' hk1' mw 0 q (by omega)]
  have hpos := isMin_pos hmin
  have i1 : (1 : Int64).toInt = 1 := by decide
  -- fits at 1 is: good, by the share 1
  have f1 : ∀ o, o < 12 → ¬ pt o = 0 → (fitsB nu ri ro o w 1 1 = true ↔ (gd nu ri ro o w ∧ isR nu ri o w 1 1)) := fun o h1 h2 => by
    constructor
    · intro z
      have hg := fits_gd (hn o h1 h2) hwB one_9 one_9 (by decide) z
      have y := oneF_ok (hn o h1 h2) hwB hk0 hk1 (0, 0)
      obtain ⟨r1, -, -⟩ := y.2 (y.1.mpr hg)
      have a := (fits_iff (hn o h1 h2) hwB one_9 one_9 (by decide) hg r1).mp z
      rw [i1] at a
      have c := hmin.2 o h1 h2 hg _ _ r1
      have d : (oneF nu ri ro o w (0, 0)).2.2.toInt ≤ (oneF nu ri ro o w (0, 0)).2.1.toInt := Int.le_of_mul_le_mul_left (by rw [Int.mul_comm t (oneF nu ri ro o w (0, 0)).2.1.toInt]; exact c) hpos.1
      exact ⟨hg, (isR_11 r1).mp (by omega)⟩
    · rintro ⟨hg, hr⟩
      exact (fits_iff (hn o h1 h2) hwB one_9 one_9 (by decide) hg hr).mpr (Int.le_refl _)
  have f2 : ∀ o, o < 12 → ¬ pt o = 0 → fitsB nu ri ro o w 1 1 = true → (fitsB nu ri ro w o 1 1 = true ↔ ∀ k, k < ri + ro → nN nu o k = nN nu w k) := fun o h1 h2 z => by
    rw [fits_int (hn o h1 h2) hwB one_9 one_9, i1] at z
    rw [fits_int hwB (hn o h1 h2) one_9 one_9, i1]
    constructor
    · intro y k hk
      by_cases c : k < ri
      · have a := z.2 k c; have b := y.2 k c; omega
      · have a := z.1 k (by omega) hk; have b := y.1 k (by omega) hk; omega
    · intro y
      refine ⟨fun k _ hk => ?_, fun k hk => ?_⟩
      · rw [y k hk]; exact Int.le_refl _
      · rw [y k (by omega)]; exact Int.le_refl _
  constructor
  · intro z o _ h1 h2 h3 h4 k hk
    obtain ⟨p1, p2⟩ := (hm o).mp ⟨h1, h2⟩
    have g := (f1 o p1 p2).mpr ⟨gd_cg (hoE o h1 h2) hwE h3, isR_cg (ro := ro) (hoE o h1 h2) hwE h4⟩
    have y := (f2 o p1 p2 g).mp (z o (Nat.zero_le _) (by omega) p2 g) k hk
    refine (i32_eq _ _).mpr ?_
    have a := hoE o h1 h2 k hk
    have b := hwE k hk
    unfold nN at a b y
    omega
  · intro z o _ h1 h2 g
    have h1 : o < 12 := by omega
    obtain ⟨p1, p2⟩ := (hm o).mpr ⟨h1, h2⟩
    obtain ⟨g1, g2⟩ := (f1 o h1 h2).mp g
    refine (f2 o h1 h2 g).mpr (fun k hk => ?_)
    have y := z o (Nat.zero_le _) p1 p2 (gd_cg (fun k hk => (hoE o p1 p2 k hk).symm) (fun k hk => (hwE k hk).symm) g1) (isR_cg (ro := ro) (fun k hk => (hoE o p1 p2 k hk).symm) (fun k hk => (hwE k hk).symm) g2) k hk
    have y := (i32_eq _ _).mp y
    have a := hoE o p1 p2 k hk
    have b := hwE k hk
    unfold nN at a b ⊢
    omega
theorem ST_strong {u : EBS} {x : MS} {v w : Int32} {ns : Nat} {sd : Nat → Int64} {tp bl x0 x1 : Int64} {c : Cn} (h : ST u x) (hv : wN v ≤ 2) (hh : eHd u w = true) (hq : mSq x (wN v) (wN w) ns sd tp bl) (hT : eTS u v w x0 x1) (hc : eOK u (wN v) c) : wtB (eTd u).2.2.1 (eTd u).1 (eTd u).2.1 (wN w) c x0 x1 = msK sd (plN x) (gMi x) (gMo x) (wN w) tp bl ns 0 (gMi x + gMo x) := by
  obtain ⟨t1, t2, t3, t4, t5⟩ := ST_td h
  obtain ⟨F, G⟩ := ST_edge h hv hh hq
  obtain ⟨g1, g2⟩ := G c hc
  obtain ⟨hw1, -⟩ := held_w h hh
  have f := F x0 x1 hT
  have b1 := h.2.2.1.1
  have b2 := h.2.2.1.2.1
  rw [t1, t2, Bool.eq_iff_iff, wtB_iff (by omega), msK_iff, g1]
  have key : ∀ r, r < ns → ∀ k, k < gMi x + gMo x → ((bstB c.2.2.2.2.2.1 (eTd u).2.2.1 (wN w) (gMi x) (gMi x + gMo x) x0 x1 r = true ∧ bt (c.2.2.2.2.2.2.1 r) k = false) ↔ (0 < sd (r * 5 + k) ∧ outsW sd (plN x) r (wN w) 4 (gMi x) (gMo x) * bl = tp * insW sd (plN x) r (wN w) (gMi x))) := fun r hr k hk => by
    obtain ⟨s1, s2, s3, -⟩ := g2 r hr
    have e1 : bstB c.2.2.2.2.2.1 (eTd u).2.2.1 (wN w) (gMi x) (gMi x + gMo x) x0 x1 r = true ↔ outsW sd (plN x) r (wN w) 4 (gMi x) (gMo x) * bl = tp * insW sd (plN x) r (wN w) (gMi x) := by
      unfold bstB
      rw [decide_eq_true_iff, show gMi x + gMo x - gMi x = gMo x by omega, (s2 _ hw1).1, (s2 _ hw1).2]
      exact frac_best f s1.1 s1.2
    have e2 : bt (c.2.2.2.2.2.2.1 r) k = false ↔ 0 < sd (r * 5 + k) := by
      obtain ⟨q1, q2⟩ := s3 k hk
      rw [pos9, ← Bool.not_eq_true, q2]
      omega
    rw [e1, e2]
    exact ⟨fun z => ⟨z.2, z.1⟩, fun z => ⟨z.2, z.1⟩⟩
  constructor
  · intro q k _ hk
    obtain ⟨r, r1, r2⟩ := q k (by omega)
    exact ⟨r, r1, (key r r1 k (by omega)).mp r2⟩
  · intro q k hk
    obtain ⟨r, r1, r2⟩ := q k (Nat.zero_le _) (by omega)
    exact ⟨r, r1, (key r r1 k hk).mpr r2⟩
theorem a_strong {u : EBS} {x : MS} {v w r r' : Int32} (h : ST u x) (hp : stP u v w r) (hm : mstP x v w r') : r = r' := by
  obtain ⟨t1, t2, t3, t4, t5⟩ := ST_td h
  unfold stP at hp
  unfold mstP at hm
  rw [asC_iff h] at hm
  by_cases hc : isVw v = true ∧ eHd u w = true
  · have hR := ST_rows h hc.2
    have hw3 := (held_w h hc.2).2.2.1
    rcases hp with ⟨-, -, x0, x1, T, hp⟩ | ⟨q, -⟩
    · rcases hm with ⟨-, ⟨v3, b, tp, bl, ⟨a1, a2, a3, a4, m⟩, hm⟩ | ⟨v2, ns, sd, tp, bl, hq, hm⟩⟩ | ⟨q, -⟩
      · have T' := T
        unfold eTS at T'
        rw [t1, t2, t3] at T'
        have f := tsh_same hR hw3 T' (Or.inl ⟨v3, a1, a2, a3, a4, m⟩)
        have o := frac_one f.1
        rcases hp with ⟨p, e⟩ | ⟨p, ⟨-, e⟩ | ⟨q, -⟩⟩
        · rcases hm with ⟨-, e'⟩ | ⟨p', -⟩
          · rw [e, e']
          · exact absurd (o.mpr p') p
        · rcases hm with ⟨p', -⟩ | ⟨p', q, e'⟩
          · exact absurd (o.mp p) p'
          · rw [e, e', t1, t2, t3]
            have hmin := f.2 v3
            rw [p'] at hmin
            rw [mtch_same hR hmin q]
        · omega
      · have f := (ST_edge h v2 hc.2 hq).1 x0 x1 T
        have o := frac_one f
        rcases hp with ⟨p, e⟩ | ⟨p, ⟨q, -⟩ | ⟨-, c, hok, e⟩⟩
        · rcases hm with ⟨-, e'⟩ | ⟨p', -⟩
          · rw [e, e']
          · exact absurd (o.mpr p') p
        · omega
        · rcases hm with ⟨p', -⟩ | ⟨p', e'⟩
          · exact absurd (o.mp p) p'
          · rw [e, e', ST_strong h v2 hc.2 hq T hok]
      · exact absurd hc q
    · exact absurd hc q
  · rcases hp with ⟨q1, q2, -⟩ | ⟨-, e⟩
    · exact absurd ⟨q1, q2⟩ hc
    · rcases hm with ⟨q, -⟩ | ⟨-, e'⟩
      · exact absurd q hc
      · rw [e, e']
theorem peer_whole {nu pt pt0 nu' am : Nat → Int32} {ri ro mw w o : Nat} {x0 x1 tp bl : Int64} (hR : rowsOK nu pt pt0 nu' am ri ro mw w) (f : frac x0 x1 tp bl) (hmin : isMin nu pt 12 ri ro w tp.toInt bl.toInt) (ho : o < mw) (ho2 : ¬ am o = 0) (q : Int64 × Int64) : fitsB nu ri ro o w x0 x1 = ((oneF nu' ri ro o w q).1 && decide ((oneF nu' ri ro o w q).2.1 * bl = tp * (oneF nu' ri ro o w q).2.2)) := by
  obtain ⟨hn, hwB, hn', hwB', ⟨k0, hk0, hk1⟩, ⟨k0', hk0', hk1'⟩, hwE, hoE, hm⟩ := rows_B hR
  obtain ⟨p1, p2⟩ := (hm o).mp ⟨ho, ho2⟩
  obtain ⟨g, g0, e0, e1, s0, s1, pos1, pos0, -⟩ := frac_int f
  obtain ⟨hb, ht, s2, s3, -⟩ := f
  obtain ⟨r1, r2⟩ := oneF_ok (hn' o ho ho2) hwB' hk0' hk1' q
  obtain ⟨R, hRe⟩ : ∃ R, R = oneF nu' ri ro o w q := ⟨_, rfl⟩
  rw [← hRe] at r1 r2 ⊢
  rw [Bool.eq_iff_iff, Bool.and_eq_true, decide_eq_true_iff]
  have hgd : gd nu ri ro o w ↔ R.1 = true := by
    rw [r1]
    exact ⟨gd_cg (fun k hk => (hoE o ho ho2 k hk).symm) (fun k hk => (hwE k hk).symm), gd_cg (hoE o ho ho2) hwE⟩
  have key : ∀ hr : R.1 = true, (fitsB nu ri ro o w x0 x1 = true ↔ R.2.1 * bl = tp * R.2.2) := fun hr => by
    obtain ⟨i1, i2, i3⟩ := r2 hr
    have i1' : isR nu ri o w R.2.1.toInt R.2.2.toInt := isR_cg (ro := ro) (hoE o ho ho2) hwE i1
    rw [fits_iff (hn o p1 p2) hwB s0 s1 pos1 (hgd.mpr hr) i1', eq9 i2 s3 s2 i3]
    have c := hmin.2 o p1 p2 (hgd.mpr hr) _ _ i1'
    have z1 : R.2.1.toInt * bl.toInt = g * (R.2.1.toInt * x1.toInt) := by rw [← e1]; grind
    have z2 : tp.toInt * R.2.2.toInt = g * (x0.toInt * R.2.2.toInt) := by rw [← e0]; grind
    rw [z1, z2] at c ⊢
    constructor
    · intro y
      have := Int.mul_le_mul_of_nonneg_left y (show 0 ≤ g by omega)
      omega
    · intro y
      have := Int.eq_of_mul_eq_mul_left (by omega) y
      omega
  constructor
  · intro z
    have hr := hgd.mp (fits_gd (hn o p1 p2) hwB s0 s1 pos1 z)
    exact ⟨hr, (key hr).mp z⟩
  · rintro ⟨hr, z⟩
    exact (key hr).mpr z
theorem ST_peer {u : EBS} {x : MS} {v w o : Int32} {ns : Nat} {sd : Nat → Int64} {tp bl x0 x1 : Int64} {c : Cn} (h : ST u x) (hv : wN v ≤ 2) (hh : eHd u w = true) (ho : wN o < gMw x) (ho2 : ¬ gTr x (wN o) = 0) (hq : mSq x (wN v) (wN w) ns sd tp bl) (hT : eTS u v w x0 x1) (hc : eOK u (wN v) c) : twB c.2.2.2.2.2.1 c.2.2.2.2.2.2.1 (eTd u).2.2.1 (wN w) (eTd u).1 ((eTd u).1 + (eTd u).2.1) x0 x1 (bdW (wN o)) 0 c.2.2.2.1 = mpL sd (plN x) (gMi x) (gMo x) (wN w) (wN o) tp bl 0 ns := by
  obtain ⟨t1, t2, t3, t4, t5⟩ := ST_td h
  obtain ⟨F, G⟩ := ST_edge h hv hh hq
  obtain ⟨g1, g2⟩ := G c hc
  obtain ⟨hw1, -⟩ := held_w h hh
  have f := F x0 x1 hT
  have b3 := h.2.2.1.2.2.1
  have ho3 : ¬ eTh u (wN o) = 0 := by rw [h.2.2.2.2.2.1 _ ho]; exact ho2
  rw [t1, t2, g1, Bool.eq_iff_iff, twB_iff, mpL_iff]
  have key : ∀ r, r < ns → ((c.2.2.2.2.2.2.1 r &&& bdW (wN o) = 0 ∧ bstB c.2.2.2.2.2.1 (eTd u).2.2.1 (wN w) (gMi x) (gMi x + gMo x) x0 x1 r = true) ↔ (outsW sd (plN x) r (wN w) 4 (gMi x) (gMo x) * bl = tp * insW sd (plN x) r (wN w) (gMi x) ∧ ¬ outsW sd (plN x) r (wN o) 4 (gMi x) (gMo x) = insW sd (plN x) r (wN o) (gMi x))) := fun r hr => by
    obtain ⟨s1, s2, s3, s4⟩ := g2 r hr
    have e1 : bstB c.2.2.2.2.2.1 (eTd u).2.2.1 (wN w) (gMi x) (gMi x + gMo x) x0 x1 r = true ↔ outsW sd (plN x) r (wN w) 4 (gMi x) (gMo x) * bl = tp * insW sd (plN x) r (wN w) (gMi x) := by
      unfold bstB
      rw [decide_eq_true_iff, show gMi x + gMo x - gMi x = gMo x by omega, (s2 _ hw1).1, (s2 _ hw1).2]
      exact frac_best f s1.1 s1.2
    have e2 : c.2.2.2.2.2.2.1 r &&& bdW (wN o) = 0 ↔ ¬ outsW sd (plN x) r (wN o) 4 (gMi x) (gMo x) = insW sd (plN x) r (wN o) (gMi x) := by
      rw [bd_iff (by omega), ← Bool.not_eq_true, s4 (wN o) (by omega) ho3, (s2 _ ho).1, (s2 _ ho).2]
    rw [e1, e2]
    exact ⟨fun z => ⟨z.2, z.1⟩, fun z => ⟨z.2, z.1⟩⟩
  constructor
  · intro q r _ hr z
    exact q r (Nat.zero_le _) hr ((key r (by omega)).mpr z)
  · intro q r _ hr z
    exact q r (Nat.zero_le _) hr ((key r (by omega)).mp z)
theorem th_iff {u : EBS} {x : MS} (h : ST u x) (o : Int32) : thB (eTh u) (eBw u) o = true ↔ (inR o (gMw x) = true ∧ ¬ gTr x (wN o) = 0) := by
  have c3 := h.2.2.2.1.2.2
  unfold thB
  rw [c3, Bool.and_eq_true]
  by_cases q : inR o (gMw x) = true
  · have e : eTh u o.toInt.toNat = gTr x (wN o) := h.2.2.2.2.2.1 _ (inR_lt q)
    rw [e, Bool.not_eq_true', decide_eq_false_iff_not]
  · exact ⟨fun z => absurd z.1 q, fun z => absurd z.1 q⟩
theorem a_peer {u : EBS} {x : MS} {v w o r r' : Int32} (h : ST u x) (hp : peP u v w o r) (hm : mpeP x v w o r') : r = r' := by
  obtain ⟨t1, t2, t3, t4, t5⟩ := ST_td h
  unfold peP at hp
  unfold mpeP mpeC at hm
  have ea : ((isVw v = true ∧ eHd u w = true) ∧ thB (eTh u) (eBw u) o = true) ↔ (isVw v = true ∧ eHd u w = true ∧ thB (eTh u) (eBw u) o = true) := and_assoc
  rw [asC_iff h, ← th_iff h, ea] at hm
  by_cases hc : isVw v = true ∧ eHd u w = true ∧ thB (eTh u) (eBw u) o = true
  · have hR := ST_rows h hc.2.1
    have hw3 := (held_w h hc.2.1).2.2.1
    obtain ⟨o1, o2⟩ := (th_iff h o).mp hc.2.2
    have o1 := inR_lt o1
    rcases hp with ⟨-, -, -, x0, x1, T, hp⟩ | ⟨q, -⟩
    · rcases hm with ⟨-, ⟨v3, b, tp, bl, ⟨a1, a2, a3, a4, m⟩, q, e'⟩ | ⟨v2, ns, sd, tp, bl, hq, e'⟩⟩ | ⟨q, -⟩
      · have T' := T
        unfold eTS at T'
        rw [t1, t2, t3] at T'
        have f := tsh_same hR hw3 T' (Or.inl ⟨v3, a1, a2, a3, a4, m⟩)
        rcases hp with ⟨-, e⟩ | ⟨z, -⟩
        · rw [e, e', t1, t2, peer_whole hR f.1 (f.2 v3) o1 (by rw [plA_at o1]; exact o2) q]
        · omega
      · rcases hp with ⟨z, -⟩ | ⟨-, c, hok, e⟩
        · omega
        · rw [e, e', ST_peer h v2 hc.2.1 o1 o2 hq T hok]
      · exact absurd hc q
    · exact absurd hc q
  · rcases hp with ⟨q1, q2, q3, -⟩ | ⟨-, e⟩
    · exact absurd ⟨q1, q2, q3⟩ hc
    · rcases hm with ⟨q, -⟩ | ⟨-, e'⟩
      · exact absurd q hc
      · rw [e, e']
end ANSB
