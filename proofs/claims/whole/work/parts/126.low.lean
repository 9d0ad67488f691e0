/-! LOWEST TERMS -/
section LOW
theorem i64_div1 (x : Int64) (h : -(2 ^ 63) < x.toInt) : x / 1 = x := by
  refine (i64_eq _ _).mpr ?_
  have e := (div_toInt (x := x) (d := 1) (by decide) h ⟨x.toInt, by show x.toInt = 1 * x.toInt; omega⟩).1
  rw [show (1 : Int64).toInt = 1 by decide, Int.mul_one] at e
  exact e
theorem dvL_div {x d : Int64} (hx : sm9 x) (hd : 0 < d.toInt) : dvL x d = x / d := by
  unfold dvL
  unfold sm9 at hx
  by_cases h : 1 < d
  · rw [if_pos h]
  · rw [if_neg h]
    have h1 : ¬ 1 < d.toInt := fun z => h ((i64_lt 1 d).mpr z)
    have e : d = 1 := (i64_eq d 1).mpr (by show d.toInt = 1; omega)
    rw [e, i64_div1 x (by omega)]
theorem gcd_same {x y : Int64} (hx : sm9 x) (hy : sm9 y) : gcdL (absL x) (absL y) 100 = cmD x y := by
  unfold sm9 at hx hy
  refine (i64_eq _ _).mpr ?_
  have a1 := absL_toInt (x := x) (by omega)
  have a2 := absL_toInt (x := y) (by omega)
  rw [gcdL_100 (by rw [a1]; omega) (by rw [a2]; omega), a1, a2, Int.natAbs_natCast, Int.natAbs_natCast, cmD_int (by omega) (by omega)]
theorem low_terms {p q : Int64 × Int64} (hR : RB p q) (h1 : sm9 p.1) (h2 : sm9 p.2) (hp : 0 < p.2.toInt) (hg : 0 ≤ p.1.toInt) : frT p.1 p.2 = q.1 / cmD q.1 q.2 ∧ frB p.1 p.2 = q.2 / cmD q.1 q.2 := by
  have b1 := h1
  have b2 := h2
  unfold sm9 at b1 b2
  have hc := cmD_int (a := p.1) (c := p.2) (by omega) (by omega)
  have hc0 : 0 < (cmD p.1 p.2).toInt := by
    rw [hc]
    have := Nat.gcd_pos_of_pos_right p.1.toInt.natAbs (show 0 < p.2.toInt.natAbs by omega)
    omega
  have e1 : frT p.1 p.2 = p.1 / cmD p.1 p.2 := by unfold frT; rw [gcd_same h1 h2, dvL_div h1 hc0]
  have e2 : frB p.1 p.2 = p.2 / cmD p.1 p.2 := by unfold frB; rw [gcd_same h1 h2, dvL_div h2 hc0]
  rw [e1, e2]
  rcases hR with ⟨a, -⟩ | ⟨-, a, e⟩ | ⟨-, -, e⟩
  · rw [a] at hp; exact absurd hp (by decide)
  · rw [e]
    have hp0 : p.1.toInt = 0 := by omega
    have c1 : cmD (0 : Int64) 1 = 1 := (i64_eq _ _).mpr (by rw [cmD_int (by decide) (by decide)]; decide)
    have hcp : (cmD p.1 p.2).toInt = p.2.toInt := by
      rw [hc, hp0]
      show ((Nat.gcd 0 p.2.toInt.natAbs : Nat) : Int) = _
      rw [Nat.gcd_zero_left]
      omega
    have hce : cmD p.1 p.2 = p.2 := (i64_eq _ _).mpr hcp
    show p.1 / cmD p.1 p.2 = 0 / cmD 0 1 ∧ p.2 / cmD p.1 p.2 = 1 / cmD 0 1
    rw [c1, hce]
    have d1 := (div_toInt (x := p.1) (d := p.2) hp (by omega) ⟨0, by rw [hp0, Int.mul_zero]⟩).1
    have d2 := (div_toInt (x := p.2) (d := p.2) hp (by omega) ⟨1, by rw [Int.mul_one]⟩).1
    refine ⟨(i64_eq _ _).mpr ?_, (i64_eq _ _).mpr ?_⟩
    · rw [hp0] at d1
      rw [show ((0 : Int64) / 1).toInt = 0 by decide]
      rcases Int.mul_eq_zero.mp d1 with z | z
      · exact z
      · omega
    · rw [show ((1 : Int64) / 1).toInt = 1 by decide]
      exact Int.eq_of_mul_eq_mul_right (show p.2.toInt ≠ 0 by omega) (by rw [d2, Int.one_mul])
  · rw [e]
    exact ⟨rfl, rfl⟩
end LOW
