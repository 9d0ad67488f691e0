/-! THE MACHINE'S LONGS where nothing runs over -/
section NUM
theorem i64_add {x y : Int64} {a c : Int} (hx : x.toInt = a) (hy : y.toInt = c) (h1 : -(2 ^ 63) ≤ a + c) (h2 : a + c < 2 ^ 63) : (x + y).toInt = a + c := by
  rw [Int64.toInt_add, hx, hy]
  apply Int.bmod_eq_of_le <;> omega
theorem i64_sub {x y : Int64} {a c : Int} (hx : x.toInt = a) (hy : y.toInt = c) (h1 : -(2 ^ 63) ≤ a - c) (h2 : a - c < 2 ^ 63) : (x - y).toInt = a - c := by
  rw [Int64.toInt_sub, hx, hy]
  apply Int.bmod_eq_of_le <;> omega
theorem i64_mul {x y : Int64} {a c : Int} (hx : x.toInt = a) (hy : y.toInt = c) (h1 : -(2 ^ 63) ≤ a * c) (h2 : a * c < 2 ^ 63) : (x * y).toInt = a * c := by
  rw [Int64.toInt_mul, hx, hy]
  apply Int.bmod_eq_of_le <;> omega
theorem i32_to64 (x : Int32) : x.toInt64.toInt = x.toInt := Int32.toInt_toInt64 x
theorem absL_toInt {x : Int64} (h : -(2 ^ 63) < x.toInt) : (absL x).toInt = x.toInt.natAbs := by
  unfold absL
  have h2 := Int64.toInt_lt x
  split
  · rename_i hx
    rw [i64_lt] at hx
    have hx : x.toInt < 0 := hx
    rw [Int64.toInt_neg]
    rw [Int.bmod_eq_of_le (by omega) (by omega)]
    omega
  · rename_i hx
    rw [i64_lt] at hx
    have hx : ¬ x.toInt < 0 := hx
    omega
theorem remL_toInt {x y : Int64} (hx : 0 ≤ x.toInt) (hy : 0 < y.toInt) : (x - x / y * y).toInt = x.toInt % y.toInt := by
  have hx2 := Int64.toInt_lt x
  have hy2 := Int64.toInt_lt y
  have h0 : 0 ≤ x.toInt / y.toInt := Int.ediv_nonneg hx (by omega)
  have h1 : x.toInt / y.toInt ≤ x.toInt := Int.ediv_le_self _ hx
  have hd : (x / y).toInt = x.toInt / y.toInt := by
    rw [Int64.toInt_div, Int.tdiv_eq_ediv_of_nonneg hx]
    apply Int.bmod_eq_of_le <;> omega
  have hm := Int.mul_ediv_add_emod x.toInt y.toInt
  have hr0 := Int.emod_nonneg x.toInt (show y.toInt ≠ 0 by omega)
  have hml : x.toInt / y.toInt * y.toInt = x.toInt - x.toInt % y.toInt := by
    rw [Int.mul_comm]
    omega
  have hle : 0 ≤ x.toInt / y.toInt * y.toInt := Int.mul_nonneg h0 (by omega)
  have hp : (x / y * y).toInt = x.toInt / y.toInt * y.toInt := i64_mul hd rfl (by omega) (by omega)
  rw [i64_sub rfl hp (by omega) (by omega)]
  omega
def fbP : Nat → Nat × Nat
  | 0 => (1, 1)
  | n + 1 => ((fbP n).2, (fbP n).1 + (fbP n).2)
theorem gcd_rem {x y : Int64} (hx : 0 ≤ x.toInt) (hy : 0 < y.toInt) : Nat.gcd y.toInt.natAbs (x - x / y * y).toInt.natAbs = Nat.gcd x.toInt.natAbs y.toInt.natAbs := by
  rw [remL_toInt hx hy]
  have e : (x.toInt % y.toInt).natAbs = x.toInt.natAbs % y.toInt.natAbs := by
    have h0 := Int.emod_nonneg x.toInt (show y.toInt ≠ 0 by omega)
    have : ((x.toInt.natAbs % y.toInt.natAbs : Nat) : Int) = x.toInt % y.toInt := by
      rw [Int.natCast_emod]
      rw [show (x.toInt.natAbs : Int) = x.toInt by omega, show (y.toInt.natAbs : Int) = y.toInt by omega]
    omega
  rw [e, Nat.gcd_comm x.toInt.natAbs, Nat.gcd_rec y.toInt.natAbs x.toInt.natAbs, Nat.gcd_comm]
theorem gcdL_two : ∀ n : Nat, (∀ a c : Int64, 0 ≤ a.toInt → 0 ≤ c.toInt → c.toInt < (fbP n).1 → (gcdL a c n).toInt = Nat.gcd a.toInt.natAbs c.toInt.natAbs) ∧ (∀ a c : Int64, 0 ≤ a.toInt → 0 ≤ c.toInt → c.toInt < (fbP n).2 → (gcdL a c (n + 1)).toInt = Nat.gcd a.toInt.natAbs c.toInt.natAbs)
  | 0 => by
    refine ⟨fun a c ha hc h => ?_, fun a c ha hc h => ?_⟩
    · have h : c.toInt < 1 := h
      rw [show c.toInt = 0 by omega]
      show a.toInt = _
      simp
      omega
    · have h : c.toInt < 1 := h
      have h0 : c = 0 := (i64_eq c 0).mpr (by rw [show (0 : Int64).toInt = 0 from rfl]; omega)
      rw [gcdL, if_pos h0, h0]
      show a.toInt = _
      simp
      omega
  | n + 1 => by
    obtain ⟨h1, h2⟩ := gcdL_two n
    refine ⟨h2, fun a c ha hc h => ?_⟩
    have h : c.toInt < ((fbP n).1 + (fbP n).2 : Nat) := h
    by_cases h0 : c = 0
    · rw [gcdL, if_pos h0, h0]
      show a.toInt = _
      simp
      omega
    · have hc0 : 0 < c.toInt := by
        have := mt (i64_eq c 0).mpr h0
        rw [show (0 : Int64).toInt = 0 from rfl] at this
        omega
      rw [gcdL, if_neg h0]
      obtain ⟨r, hr⟩ : ∃ r, r = a - a / c * c := ⟨_, rfl⟩
      have hg := gcd_rem ha hc0
      rw [← hr] at hg ⊢
      have hrv : r.toInt = a.toInt % c.toInt := by rw [hr]; exact remL_toInt ha hc0
      have hr0 : 0 ≤ r.toInt := by rw [hrv]; exact Int.emod_nonneg _ (by omega)
      have hrl : r.toInt < c.toInt := by rw [hrv]; exact Int.emod_lt_of_pos _ hc0
      by_cases hsm : r.toInt < (fbP n).2
      · rw [h2 c r hc hr0 hsm, hg]
      · by_cases hz : r = 0
        · rw [gcdL, if_pos hz, ← hg, hz]
          show c.toInt = _
          simp
          omega
        · have hrp : 0 < r.toInt := by
            have := mt (i64_eq r 0).mpr hz
            rw [show (0 : Int64).toInt = 0 from rfl] at this
            omega
          rw [gcdL, if_neg hz]
          have hg2 := gcd_rem hc hrp
          have hv2 := remL_toInt hc hrp
          have q0 : 0 ≤ (c - c / r * r).toInt := by rw [hv2]; exact Int.emod_nonneg _ (by omega)
          have q1 : (c - c / r * r).toInt < (fbP n).1 := by
            rw [hv2]
            have hm := Int.mul_ediv_add_emod c.toInt r.toInt
            have h1 : 1 ≤ c.toInt / r.toInt := by
              have := Int.ediv_le_ediv hrp (show r.toInt ≤ c.toInt by omega)
              rw [Int.ediv_self (by omega)] at this
              exact this
            have : r.toInt * 1 ≤ r.toInt * (c.toInt / r.toInt) := Int.mul_le_mul_of_nonneg_left h1 (by omega)
            omega
          rw [h1 r _ hr0 q0 q1, hg2, hg]
theorem gcdL_100 {a c : Int64} (ha : 0 ≤ a.toInt) (hc : 0 ≤ c.toInt) : (gcdL a c 100).toInt = Nat.gcd a.toInt.natAbs c.toInt.natAbs := by
  refine (gcdL_two 100).1 a c ha hc ?_
  have h1 := Int64.toInt_lt c
  have h2 : (2 ^ 63 : Int) ≤ (fbP 100).1 := by decide +kernel
  omega
/-- the divisor of a row that is joined -/
theorem gl_succ (f : Nat → Int) : ∀ l : List Nat, gl f (l.map (fun k => k + 1)) = gl (fun k => f (k + 1)) l
  | [] => rfl
  | x :: l => by rw [List.map_cons, gl, gl, gl_succ f l]
theorem gl_range (f : Nat → Int) (n : Nat) : gl f (List.range (n + 1)) = Nat.gcd (f 0).natAbs (gl (fun k => f (k + 1)) (List.range n)) := by
  rw [List.range_succ_eq_map, gl]
  exact congrArg _ (gl_succ f _)
theorem gl_shift (F : Nat → Int64) (i n : Nat) : gl (fun k => (F (i + k)).toInt) (List.range (n + 1)) = Nat.gcd (F i).toInt.natAbs (gl (fun k => (F (i + 1 + k)).toInt) (List.range n)) := by
  have h := gl_range (fun k => (F (i + k)).toInt) n
  have e : (fun k => (F (i + (k + 1))).toInt) = fun k => (F (i + 1 + k)).toInt := funext (fun k => by rw [show i + (k + 1) = i + 1 + k by omega])
  rw [h]
  show Nat.gcd (F (i + 0)).toInt.natAbs (gl (fun k => (F (i + (k + 1))).toInt) (List.range n)) = _
  rw [e, Nat.add_zero]
theorem jnD_gl (F : Nat → Int64) (hF : ∀ k, -(2 ^ 63) < (F k).toInt) (n : Nat) : ∀ (i : Nat) (d : Int64), 0 ≤ d.toInt → (jnD F i n d).toInt = Nat.gcd d.toInt.natAbs (gl (fun k => (F (i + k)).toInt) (List.range n)) := by
  induction n with
  | zero =>
    intro i d hd
    show d.toInt = _
    rw [show (List.range 0) = [] from rfl, gl]
    simp
    omega
  | succ n ih =>
    intro i d hd
    have ha := absL_toInt (x := d) (by omega)
    have hb := absL_toInt (hF i)
    have hg : (gcdL (absL d) (absL (F i)) 100).toInt = (Nat.gcd d.toInt.natAbs (F i).toInt.natAbs : Nat) := by
      rw [gcdL_100 (a := absL d) (c := absL (F i)) (by rw [ha]; omega) (by rw [hb]; omega), ha, hb, Int.natAbs_natCast, Int.natAbs_natCast]
    obtain ⟨G, hG⟩ : ∃ G, G = gcdL (absL d) (absL (F i)) 100 := ⟨_, rfl⟩
    rw [← hG] at hg
    have hstep : jnD F i (n + 1) d = jnD F (i + 1) n G := by rw [jnD, hG]
    rw [hstep, ih (i + 1) G (by rw [hg]; omega), hg, Int.natAbs_natCast, gl_shift F i n, Nat.gcd_assoc]
theorem div_toInt {x d : Int64} (hd : 0 < d.toInt) (hx : -(2 ^ 63) < x.toInt) (h : d.toInt ∣ x.toInt) : (x / d).toInt * d.toInt = x.toInt ∧ (x / d).toInt.natAbs ≤ x.toInt.natAbs := by
  obtain ⟨k, hk⟩ := h
  have hx2 := Int64.toInt_lt x
  have hkb : k.natAbs ≤ x.toInt.natAbs := by
    rw [hk, Int.natAbs_mul]
    exact Nat.le_mul_of_pos_left _ (by omega)
  have e : (x / d).toInt = k := by
    rw [Int64.toInt_div, hk, Int.mul_tdiv_cancel_left k (by omega)]
    apply Int.bmod_eq_of_le <;> omega
  rw [e]
  exact ⟨by rw [hk, Int.mul_comm], hkb⟩
end NUM
