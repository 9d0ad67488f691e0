/-! SHARES: both run over the same rows -/
section SHARES
def sm9 (x : Int64) : Prop := x.toInt.natAbs ≤ 1000000000
theorem mul9 {x y : Int64} (hx : sm9 x) (hy : sm9 y) : (x * y).toInt = x.toInt * y.toInt := by
  have h : (x.toInt * y.toInt).natAbs ≤ 1000000000 * 1000000000 := by rw [Int.natAbs_mul]; exact Nat.mul_le_mul hx hy
  exact i64_mul rfl rfl (by omega) (by omega)
theorem lt9 {x y z w : Int64} (hx : sm9 x) (hy : sm9 y) (hz : sm9 z) (hw : sm9 w) : x * y < z * w ↔ x.toInt * y.toInt < z.toInt * w.toInt := by rw [i64_lt, mul9 hx hy, mul9 hz hw]
theorem eq9 {x y z w : Int64} (hx : sm9 x) (hy : sm9 y) (hz : sm9 z) (hw : sm9 w) : x * y = z * w ↔ x.toInt * y.toInt = z.toInt * w.toInt := by rw [i64_eq, mul9 hx hy, mul9 hz hw]
theorem pos9 (x : Int64) : 0 < x ↔ 0 < x.toInt := i64_lt 0 x
theorem zer9 (x : Int64) : x = 0 ↔ x.toInt = 0 := i64_eq x 0
theorem rat_tr {a b c d e f : Int} (hb : 0 < b) (hd : 0 < d) (hf : 0 < f) (h1 : a * d ≤ c * b) (h2 : c * f ≤ e * d) : a * f ≤ e * b := by
  have e1 : a * d * f ≤ c * b * f := Int.mul_le_mul_of_nonneg_right h1 (by omega)
  have e2 : c * f * b ≤ e * d * b := Int.mul_le_mul_of_nonneg_right h2 (by omega)
  have e3 : d * (a * f) ≤ d * (e * b) := by
    have q1 : d * (a * f) = a * d * f := by grind
    have q2 : d * (e * b) = e * d * b := by grind
    have q3 : c * b * f = c * f * b := by grind
    rw [q1, q2]
    omega
  exact Int.le_of_mul_le_mul_left e3 hd
/-- the class's best so far and the reference's -/
def RB (p q : Int64 × Int64) : Prop := (p = (0, 0) ∧ q = (0, 1)) ∨ (0 < p.2.toInt ∧ p.1.toInt ≤ 0 ∧ q = (0, 1)) ∨ (0 < p.1.toInt ∧ 0 < p.2.toInt ∧ q = p)
theorem RB_step {p q : Int64 × Int64} {x y : Int64} (hx : sm9 x) (hy : sm9 y) (h1 : sm9 p.1) (h2 : sm9 p.2) (h : RB p q) :
    RB (if 0 < x ∧ (p.2 = 0 ∨ p.1 * x < y * p.2) then (y, x) else p) (if 0 < x ∧ q.1 * x < y * q.2 then (y, x) else q) ∧ sm9 (if 0 < x ∧ (p.2 = 0 ∨ p.1 * x < y * p.2) then (y, x) else p).1 ∧ sm9 (if 0 < x ∧ (p.2 = 0 ∨ p.1 * x < y * p.2) then (y, x) else p).2 ∧
    (0 < p.2.toInt → 0 < (if 0 < x ∧ (p.2 = 0 ∨ p.1 * x < y * p.2) then (y, x) else p).2.toInt ∧ p.1.toInt * (if 0 < x ∧ (p.2 = 0 ∨ p.1 * x < y * p.2) then (y, x) else p).2.toInt ≤ (if 0 < x ∧ (p.2 = 0 ∨ p.1 * x < y * p.2) then (y, x) else p).1.toInt * p.2.toInt) ∧
    (0 < x.toInt → 0 < (if 0 < x ∧ (p.2 = 0 ∨ p.1 * x < y * p.2) then (y, x) else p).2.toInt ∧ y.toInt * (if 0 < x ∧ (p.2 = 0 ∨ p.1 * x < y * p.2) then (y, x) else p).2.toInt ≤ (if 0 < x ∧ (p.2 = 0 ∨ p.1 * x < y * p.2) then (y, x) else p).1.toInt * x.toInt) := by
  have e01 : ∀ z : Int64, sm9 z → (((0 : Int64) * x < z * (1 : Int64)) ↔ 0 < z.toInt) := fun z hz => by
    rw [lt9 (show sm9 0 by unfold sm9; decide) hx hz (show sm9 1 by unfold sm9; decide)]
    show (0 : Int) * x.toInt < z.toInt * 1 ↔ _
    rw [Int.zero_mul, Int.mul_one]
  have hp0 : 0 ≤ p.2.toInt := by
    rcases h with h | h | h
    · rw [h.1]; decide
    · omega
    · omega
  by_cases hxp : 0 < x
  · have hx0 := (pos9 x).mp hxp
    by_cases hc : p.2 = 0 ∨ p.1 * x < y * p.2
    · rw [if_pos ⟨hxp, hc⟩]
      refine ⟨?_, hy, hx, fun hp => ⟨hx0, ?_⟩, fun _ => ⟨hx0, Int.le_refl _⟩⟩
      · rcases h with ⟨a1, a2⟩ | ⟨a1, a2, a3⟩ | ⟨a1, a2, a3⟩
        · rw [a2]
          by_cases hy0 : 0 < y.toInt
          · rw [if_pos ⟨hxp, (e01 y hy).mpr hy0⟩]
            exact Or.inr (Or.inr ⟨hy0, hx0, rfl⟩)
          · rw [if_neg (fun z => hy0 ((e01 y hy).mp z.2))]
            exact Or.inr (Or.inl ⟨hx0, by show y.toInt ≤ 0; omega, rfl⟩)
        · rw [a3]
          by_cases hy0 : 0 < y.toInt
          · rw [if_pos ⟨hxp, (e01 y hy).mpr hy0⟩]
            exact Or.inr (Or.inr ⟨hy0, hx0, rfl⟩)
          · rw [if_neg (fun z => hy0 ((e01 y hy).mp z.2))]
            exact Or.inr (Or.inl ⟨hx0, by show y.toInt ≤ 0; omega, rfl⟩)
        · rw [a3]
          have hc2 : p.1 * x < y * p.2 := hc.elim (fun z => absurd ((zer9 _).mp z) (by omega)) id
          rw [if_pos ⟨hxp, hc2⟩]
          refine Or.inr (Or.inr ⟨?_, hx0, rfl⟩)
          have hc3 := (lt9 h1 hx hy h2).mp hc2
          have hpp := Int.mul_pos a1 hx0
          show 0 < y.toInt
          refine Classical.byContradiction (fun hn => ?_)
          have := Int.mul_nonneg (show 0 ≤ -y.toInt by omega) hp0
          rw [Int.neg_mul] at this
          omega
      · show p.1.toInt * x.toInt ≤ y.toInt * p.2.toInt
        rcases hc with hc | hc
        · have := (zer9 _).mp hc; omega
        · have := (lt9 h1 hx hy h2).mp hc; omega
    · rw [if_neg (fun z => hc z.2)]
      have hp2 : 0 < p.2.toInt := by
        have : ¬ p.2.toInt = 0 := fun z => hc (Or.inl ((zer9 _).mpr z))
        omega
      have hle : y.toInt * p.2.toInt ≤ p.1.toInt * x.toInt := by
        have : ¬ p.1.toInt * x.toInt < y.toInt * p.2.toInt := fun z => hc (Or.inr ((lt9 h1 hx hy h2).mpr z))
        omega
      refine ⟨?_, h1, h2, fun _ => ⟨hp2, Int.le_refl _⟩, fun _ => ⟨hp2, hle⟩⟩
      rcases h with ⟨a1, a2⟩ | ⟨a1, a2, a3⟩ | ⟨a1, a2, a3⟩
      · rw [a1] at hp2; exact absurd hp2 (by decide)
      · have hy0 : ¬ 0 < y.toInt := fun hy0 => by
          have q1 := Int.mul_pos hy0 hp2
          have q2 := Int.mul_nonneg (show 0 ≤ -p.1.toInt by omega) (show 0 ≤ x.toInt by omega)
          rw [Int.neg_mul] at q2
          omega
        rw [a3, if_neg (fun z => hy0 ((e01 y hy).mp z.2))]
        exact Or.inr (Or.inl ⟨a1, a2, rfl⟩)
      · rw [a3, if_neg (fun z => hc (Or.inr z.2))]
        exact Or.inr (Or.inr ⟨a1, a2, rfl⟩)
  · have hxn : ¬ 0 < x.toInt := fun z => hxp ((pos9 x).mpr z)
    rw [if_neg (fun z => hxp z.1), if_neg (fun z => hxp z.1)]
    exact ⟨h, h1, h2, fun z => ⟨z, Int.le_refl _⟩, fun z => absurd z hxn⟩
theorem sh_both {ray sd : Nat → Int64} {nu nu' : Nat → Int32} {w ki kt no m : Nat} (hA : ∀ i, i < m → insW sd nu' i w ki = insW ray nu i w ki) (hG : ∀ i, i < m → outsW sd nu' i w 4 ki no = outsW ray nu i w kt ki (kt - ki)) (bA : ∀ i, i < m → sm9 (insW ray nu i w ki)) (bG : ∀ i, i < m → sm9 (outsW ray nu i w kt ki (kt - ki))) : ∀ (n i : Nat) (p q : Int64 × Int64), i + n = m → RB p q → sm9 p.1 → sm9 p.2 →
    ((∃ j, i ≤ j ∧ j < m ∧ (insW ray nu j w ki).toInt = 0 ∧ 0 < (outsW ray nu j w kt ki (kt - ki)).toInt) ∧ shF ray nu w ki kt i n p = (0, 0) ∧ (shL sd nu' ki no w i n q).1 = false) ∨
    ((∀ j, i ≤ j → j < m → (insW ray nu j w ki).toInt = 0 → (outsW ray nu j w kt ki (kt - ki)).toInt ≤ 0) ∧ (shL sd nu' ki no w i n q).1 = true ∧ RB (shF ray nu w ki kt i n p) (shL sd nu' ki no w i n q).2 ∧ sm9 (shF ray nu w ki kt i n p).1 ∧ sm9 (shF ray nu w ki kt i n p).2 ∧
      (0 < p.2.toInt → 0 < (shF ray nu w ki kt i n p).2.toInt ∧ p.1.toInt * (shF ray nu w ki kt i n p).2.toInt ≤ (shF ray nu w ki kt i n p).1.toInt * p.2.toInt) ∧
      ∀ j, i ≤ j → j < m → 0 < (insW ray nu j w ki).toInt → 0 < (shF ray nu w ki kt i n p).2.toInt ∧ (outsW ray nu j w kt ki (kt - ki)).toInt * (shF ray nu w ki kt i n p).2.toInt ≤ (shF ray nu w ki kt i n p).1.toInt * (insW ray nu j w ki).toInt)
  | 0, i, p, q, hm, hR, h1, h2 => Or.inr ⟨fun j a c => absurd c (by omega), rfl, hR, h1, h2, fun z => ⟨z, Int.le_refl _⟩, fun j a c => absurd c (by omega)⟩
  | n + 1, i, p, q, hm, hR, h1, h2 => by
    have hi : i < m := by omega
    rw [shF, shL, shS, hA i hi, hG i hi]
    have bx := bA i hi
    have by' := bG i hi
    obtain ⟨x, hx⟩ : ∃ x, x = insW ray nu i w ki := ⟨_, rfl⟩
    obtain ⟨y, hy⟩ : ∃ y, y = outsW ray nu i w kt ki (kt - ki) := ⟨_, rfl⟩
    rw [← hx] at bx
    rw [← hy] at by'
    rw [← hx, ← hy]
    by_cases h0 : x = 0 ∧ 0 < y
    · rw [if_pos h0, if_pos h0]
      exact Or.inl ⟨⟨i, Nat.le_refl _, hi, by rw [← hx]; exact (zer9 x).mp h0.1, by rw [← hy]; exact (pos9 y).mp h0.2⟩, rfl, rfl⟩
    · rw [if_neg h0, if_neg h0]
      obtain ⟨s1, s2, s3, s4, s5⟩ := RB_step bx by' h1 h2 hR
      obtain ⟨p', hp'⟩ : ∃ p', p' = if 0 < x ∧ (p.2 = 0 ∨ p.1 * x < y * p.2) then (y, x) else p := ⟨_, rfl⟩
      obtain ⟨q', hq'⟩ : ∃ q', q' = if 0 < x ∧ q.1 * x < y * q.2 then (y, x) else q := ⟨_, rfl⟩
      rw [← hp'] at s1 s2 s3 s4 s5
      rw [← hq'] at s1
      rw [← hp', ← hq']
      have hnb : x.toInt = 0 → y.toInt ≤ 0 := fun z => by
        refine Classical.byContradiction (fun hn => h0 ⟨(zer9 x).mpr z, (pos9 y).mpr (by omega)⟩)
      rcases sh_both hA hG bA bG n (i + 1) p' q' (by omega) s1 s2 s3 with ⟨⟨j, j1, j2, j3⟩, e1, e2⟩ | ⟨c1, c2, c3, c4, c5, c6, c7⟩
      · exact Or.inl ⟨⟨j, by omega, j2, j3⟩, e1, e2⟩
      · obtain ⟨F, hF⟩ : ∃ F, F = shF ray nu w ki kt (i + 1) n p' := ⟨_, rfl⟩
        rw [← hF] at c3 c4 c5 c6 c7
        rw [← hF]
        refine Or.inr ⟨fun j j1 j2 j3 => ?_, c2, c3, c4, c5, fun z => ?_, fun j j1 j2 j3 => ?_⟩
        · by_cases e : j = i
          · rw [e, ← hy]; rw [e, ← hx] at j3; exact hnb j3
          · exact c1 j (by omega) j2 j3
        · obtain ⟨a1, a2⟩ := s4 z
          obtain ⟨b1, b2⟩ := c6 a1
          exact ⟨b1, rat_tr z a1 b1 a2 b2⟩
        · by_cases e : j = i
          · rw [e, ← hx] at j3
            rw [e, ← hx, ← hy]
            obtain ⟨a1, a2⟩ := s5 j3
            obtain ⟨b1, b2⟩ := c6 a1
            exact ⟨b1, rat_tr j3 a1 b1 a2 b2⟩
          · exact c7 j (by omega) j2 j3
end SHARES
