theorem i32_lt (a b : Int32) : a < b ↔ a.toInt < b.toInt := Int32.lt_iff_toInt_lt
theorem i32_le (a b : Int32) : a ≤ b ↔ a.toInt ≤ b.toInt := Int32.le_iff_toInt_le
theorem i32_eq (a b : Int32) : a = b ↔ a.toInt = b.toInt := Int32.toInt_inj.symm
theorem i32_l0 (x : Int32) : x < 0 ↔ x.toInt < 0 := i32_lt x 0
theorem i32_g0 (x : Int32) : 0 ≤ x ↔ 0 ≤ x.toInt := i32_le 0 x
theorem i32_gN {n : Nat} (h : n < 2 ^ 31) (x : Int32) : nI n < x ↔ (n : Int) < x.toInt := by rw [i32_lt, nI_toInt h]
theorem i32_lN {n : Nat} (h : n < 2 ^ 31) (x : Int32) : x < nI n ↔ x.toInt < (n : Int) := by rw [i32_lt, nI_toInt h]
theorem i32_geN {n : Nat} (h : n < 2 ^ 31) (x : Int32) : nI n ≤ x ↔ (n : Int) ≤ x.toInt := by rw [i32_le, nI_toInt h]
theorem i32_leN {n : Nat} (h : n < 2 ^ 31) (x : Int32) : x ≤ nI n ↔ x.toInt ≤ (n : Int) := by rw [i32_le, nI_toInt h]
theorem i32_eN {n : Nat} (h : n < 2 ^ 31) (x : Int32) : x = nI n ↔ x.toInt = (n : Int) := by rw [i32_eq, nI_toInt h]
def isNum (x : Int32) : Bool := decide (0 ≤ x.toInt ∧ x.toInt ≤ 30)
def isVw (x : Int32) : Bool := decide (0 ≤ x.toInt ∧ x.toInt ≤ 3)
def inR (x : Int32) (n : Nat) : Bool := decide (0 ≤ x.toInt ∧ x.toInt < n)
theorem nI_get {x : Int32} (h : 0 ≤ x.toInt) : ∃ j : Nat, x = nI j ∧ j < 2 ^ 31 ∧ x.toInt = j := by
  obtain ⟨j, h1, h2⟩ := nI_of (x := x) (by rw [i32_l0]; omega)
  exact ⟨j, h2, h1, by rw [h2, nI_toInt h1]⟩
theorem inR_nI {x : Int32} {n : Nat} (h : inR x n = true) : ∃ j : Nat, j < n ∧ j < 2 ^ 31 ∧ x = nI j := by
  have h := of_decide_eq_true h
  obtain ⟨j, h1, h2, h3⟩ := nI_get h.1
  exact ⟨j, by omega, h2, h1⟩
theorem inR_n {j n : Nat} (hj : j < 2 ^ 31) : inR (nI j) n = decide (j < n) := by
  unfold inR
  rw [nI_toInt hj]
  by_cases h : j < n
  · rw [decide_eq_true h, decide_eq_true (by omega)]
  · rw [decide_eq_false h, decide_eq_false (by omega)]
theorem isNum_nI {x : Int32} (h : isNum x = true) : ∃ j : Nat, j ≤ 30 ∧ x = nI j := by
  have h := of_decide_eq_true h
  obtain ⟨j, h1, h2, h3⟩ := nI_get h.1
  exact ⟨j, by omega, h1⟩
theorem isVw_nI {x : Int32} (h : isVw x = true) : ∃ j : Nat, j ≤ 3 ∧ x = nI j := by
  have h := of_decide_eq_true h
  obtain ⟨j, h1, h2, h3⟩ := nI_get h.1
  exact ⟨j, by omega, h1⟩
def thB (th : Nat → Int32) (bw : Nat) (w : Int32) : Bool := inR w bw && !decide (th w.toInt.toNat = 0)
def hdB (th nu : Nat → Int32) (bw ri ro : Nat) (w : Int32) : Bool := thB th bw w && (!allZ nu (w.toInt.toNat * 4 + 0) (ri - 0) && !allZ nu (w.toInt.toNat * 4 + ri) (ri + ro - ri))
theorem nI_tn {j : Nat} (h : j < 2 ^ 31) : (nI j).toInt.toNat = j := by rw [nI_toInt h]; rfl
def cntT (th : Nat → Int32) (i : Nat) : Nat → Nat
  | 0 => 0
  | n + 1 => (if th i = 0 then 0 else 1) + cntT th (i + 1) n
theorem cntT_le (th : Nat → Int32) : ∀ n i : Nat, cntT th i n ≤ n
  | 0, _ => Nat.le_refl _
  | n + 1, i => by
    rw [cntT]
    have h := cntT_le th n (i + 1)
    split <;> omega
def msI (lo hi th : Nat → Int32) (w i : Nat) : Nat → Nat
  | 0 => 0
  | n + 1 => (if ¬ th w = 0 ∧ lo (w * 4 + i) < hi (w * 4 + i) then 1 else 0) + msI lo hi th w (i + 1) n
theorem msI_le (lo hi th : Nat → Int32) (w : Nat) : ∀ n i : Nat, msI lo hi th w i n ≤ n
  | 0, _ => Nat.le_refl _
  | n + 1, i => by
    rw [msI]
    have h := msI_le lo hi th w n (i + 1)
    split <;> omega
def msO (lo hi th : Nat → Int32) (t w : Nat) : Nat → Nat
  | 0 => 0
  | n + 1 => msI lo hi th w 0 t + msO lo hi th t (w + 1) n
theorem msO_le (lo hi th : Nat → Int32) (t : Nat) : ∀ n w : Nat, msO lo hi th t w n ≤ n * t
  | 0, _ => Nat.zero_le _
  | n + 1, w => by
    rw [msO, Nat.succ_mul]
    have h := msO_le lo hi th t n (w + 1)
    have h2 := msI_le lo hi th w t 0
    omega
def brB (lo th : Nat → Int32) (bi bo i : Nat) : Nat → Bool
  | 0 => false
  | n + 1 => if ¬ th i = 0 ∧ (allZ lo (i * 4 + 0) (bi - 0) = true ∨ allZ lo (i * 4 + bi) (bi + bo - bi) = true) then true else brB lo th bi bo (i + 1) n
def ptV (x0 x1 : Int64) (wh : Int32) : Int64 := if x1 = 0 then -1 else if wh = 0 then x0 else if wh = nI 1 then x1 else -1
def pk4 (k : Nat) (a b c d : Int32) : Int32 := if k < 2 then (if k = 0 then a else b) else if k = 2 then c else d
def hsB (v : Int32) (n : Nat) : Bool := decide (0 ≤ v.toInt ∧ v.toInt ≤ 2 ∧ 0 < n)
set_option maxHeartbeats 4000000 in
set_option maxRecDepth 100000 in
theorem c_X3_isNumber (l : Launch) (g : Gt) (x : Int32) : CI l yX3_isNumber wsX3_isNumber { frames := 0, cells := 0, slots := 0, locals := 0 } g [.int (x)] [] (fun zr (zu : Unit) => zr = bI (isNum x)) (fun (zu : Unit) => []) 0 0 := by
  refine ent_z (cc := cX3_isNumber) (maxL := 1) (by decide) rfl (Nat.le_of_ble_eq_true rfl) ?_
  intro p e s m below meth c A args Q hE ret ls hl
  obtain ⟨hx, hb, hml, hown, hts, hnm, hA, hP, hD, hK, hN⟩ := hE
  have hS : va_S A s.heap s.heap [] := va_S.rf
  have hl : lv_has ls 1 [(0, .int (x))] := hl
  have hP : va_P g.1 vwCl [] s.heap := hP
  refine lv_iload_n hx hb dX3_isNumber_0 rfl (lv_at hl 0 rfl) ?_
  refine lv_if_lt (tgt := 14) hx hb dX3_isNumber_1 (by decide) (fun c_1 => ?_) (fun c_1 => ?_)
  · skip
    have hres : isNum x = false := decide_eq_false (by rw [i32_l0] at c_1; omega)
    refine lv_iconst (v := nI 0) hx hb dX3_isNumber_14 (by decide) ?_
    exact ret dX3_isNumber_15 () (by rw [hres]; rfl) (by decide) hP hD hS
  · skip
    have h0 := c_1
    rw [i32_l0] at h0
    refine lv_iload_n hx hb dX3_isNumber_4 rfl (lv_at hl 0 rfl) ?_
    refine lv_bipush (v := nI 30) hx hb dX3_isNumber_5 (by decide) ?_
    refine lv_icmp_gt (tgt := 14) hx hb dX3_isNumber_7 (by decide) (fun c_2 => ?_) (fun c_2 => ?_)
    · skip
      have hres : isNum x = false := decide_eq_false (by rw [i32_gN (by decide)] at c_2; omega)
      refine lv_iconst (v := nI 0) hx hb dX3_isNumber_14 (by decide) ?_
      exact ret dX3_isNumber_15 () (by rw [hres]; rfl) (by decide) hP hD hS
    · skip
      have hres : isNum x = true := decide_eq_true (by rw [i32_gN (by decide)] at c_2; omega)
      refine lv_iconst (v := nI 1) hx hb dX3_isNumber_10 (by decide) ?_
      refine lv_goto (tgt := 15) hx hb dX3_isNumber_11 (by decide) ?_
      exact ret dX3_isNumber_15 () (by rw [hres]; rfl) (by decide) hP hD hS
set_option maxHeartbeats 4000000 in
set_option maxRecDepth 100000 in
theorem c_X3_isView (l : Launch) (g : Gt) (x : Int32) : CI l yX3_isView wsX3_isView { frames := 0, cells := 0, slots := 0, locals := 0 } g [.int (x)] [] (fun zr (zu : Unit) => zr = bI (isVw x)) (fun (zu : Unit) => []) 0 0 := by
  refine ent_z (cc := cX3_isView) (maxL := 1) (by decide) rfl (Nat.le_of_ble_eq_true rfl) ?_
  intro p e s m below meth c A args Q hE ret ls hl
  obtain ⟨hx, hb, hml, hown, hts, hnm, hA, hP, hD, hK, hN⟩ := hE
  have hS : va_S A s.heap s.heap [] := va_S.rf
  have hl : lv_has ls 1 [(0, .int (x))] := hl
  have hP : va_P g.1 vwCl [] s.heap := hP
  refine lv_iload_n hx hb dX3_isView_0 rfl (lv_at hl 0 rfl) ?_
  refine lv_if_lt (tgt := 13) hx hb dX3_isView_1 (by decide) (fun c_1 => ?_) (fun c_1 => ?_)
  · skip
    have hres : isVw x = false := decide_eq_false (by rw [i32_l0] at c_1; omega)
    refine lv_iconst (v := nI 0) hx hb dX3_isView_13 (by decide) ?_
    exact ret dX3_isView_14 () (by rw [hres]; rfl) (by decide) hP hD hS
  · skip
    have h0 := c_1
    rw [i32_l0] at h0
    refine lv_iload_n hx hb dX3_isView_4 rfl (lv_at hl 0 rfl) ?_
    refine lv_iconst (v := nI 3) hx hb dX3_isView_5 (by decide) ?_
    refine lv_icmp_gt (tgt := 13) hx hb dX3_isView_6 (by decide) (fun c_2 => ?_) (fun c_2 => ?_)
    · skip
      have hres : isVw x = false := decide_eq_false (by rw [i32_gN (by decide)] at c_2; omega)
      refine lv_iconst (v := nI 0) hx hb dX3_isView_13 (by decide) ?_
      exact ret dX3_isView_14 () (by rw [hres]; rfl) (by decide) hP hD hS
    · skip
      have hres : isVw x = true := decide_eq_true (by rw [i32_gN (by decide)] at c_2; omega)
      refine lv_iconst (v := nI 1) hx hb dX3_isView_9 (by decide) ?_
      refine lv_goto (tgt := 14) hx hb dX3_isView_10 (by decide) ?_
      exact ret dX3_isView_14 () (by rw [hres]; rfl) (by decide) hP hD hS
theorem iw_X3_isWork_X3 : ∀ w ∈ wsX30, w ∈ wsX3_isWork := by decide +kernel
theorem fm_X3_isWork_45 : Cond.fieldLink RX3 45 "EdgeBench" "works" "I" ∈ wsX3_isWork := by decide +kernel
set_option maxHeartbeats 4000000 in
set_option maxRecDepth 100000 in
theorem c_X3_isWork (l : Launch) (g : Gt) (e0 : Nat) (bi : Nat) (bo : Nat) (bw : Nat) (al : Nat) (ah : Nat) (az : Nat) (r0 : Nat) (s0 : Nat) (ac : Nat) (h9 : Nat) (x : Int32) (hbw : bw ≤ 12) : CI l yX3_isWork wsX3_isWork { frames := 0, cells := 0, slots := 0, locals := 0 } g [.ref (e0), .int (x)] [(e0, .inr (3, [.int (nI bi), .int (nI bo), .int (nI bw), .ref (al), .ref (ah), .ref (az), .ref (r0), .ref (s0), .ref (ac), .ref (h9)]))] (fun zr (zu : Unit) => zr = bI (inR x bw)) (fun (zu : Unit) => [(e0, .inr (3, [.int (nI bi), .int (nI bo), .int (nI bw), .ref (al), .ref (ah), .ref (az), .ref (r0), .ref (s0), .ref (ac), .ref (h9)]))]) 0 0 := by
  refine ent_z (cc := cX3_isWork) (maxL := 2) (by decide) rfl (Nat.le_of_ble_eq_true rfl) ?_
  intro p e s m below meth c A args Q hE ret ls hl
  obtain ⟨hx, hb, hml, hown, hts, hnm, hA, hP, hD, hK, hN⟩ := hE
  have hS : va_S A s.heap s.heap [] := va_S.rf
  have hl : lv_has ls 2 [(0, .ref (e0)), (1, .int (x))] := hl
  have hP : va_P g.1 vwCl [(e0, .inr (3, [.int (nI bi), .int (nI bo), .int (nI bw), .ref (al), .ref (ah), .ref (az), .ref (r0), .ref (s0), .ref (ac), .ref (h9)]))] s.heap := hP
  refine lv_iload_n hx hb dX3_isWork_0 rfl (lv_at hl 1 rfl) ?_
  refine lv_if_lt (tgt := 16) hx hb dX3_isWork_1 (by decide) (fun c_1 => ?_) (fun c_1 => ?_)
  · skip
    have hres : inR x bw = false := decide_eq_false (by rw [i32_l0] at c_1; omega)
    refine lv_iconst (v := nI 0) hx hb dX3_isWork_16 (by decide) ?_
    exact ret dX3_isWork_17 () (by rw [hres]; rfl) (by decide) hP hD hS
  · skip
    have h0 := c_1
    rw [i32_l0] at h0
    refine lv_iload_n hx hb dX3_isWork_4 rfl (lv_at hl 1 rfl) ?_
    refine lv_aload_n hx hb dX3_isWork_5 rfl (lv_at hl 0 rfl) ?_
    refine k_get hx hb hts hown hK hP iw_X3_isWork_X3 rfl 0 2 fm_X3_isWork_45 (by decide) rfl rfl dX3_isWork_6 ?_
    refine lv_icmp_ge (tgt := 16) hx hb dX3_isWork_9 (by decide) (fun c_2 => ?_) (fun c_2 => ?_)
    · skip
      have hres : inR x bw = false := decide_eq_false (by rw [i32_geN (by omega)] at c_2; omega)
      refine lv_iconst (v := nI 0) hx hb dX3_isWork_16 (by decide) ?_
      exact ret dX3_isWork_17 () (by rw [hres]; rfl) (by decide) hP hD hS
    · skip
      have hres : inR x bw = true := decide_eq_true (by rw [i32_geN (by omega)] at c_2; omega)
      refine lv_iconst (v := nI 1) hx hb dX3_isWork_12 (by decide) ?_
      refine lv_goto (tgt := 17) hx hb dX3_isWork_13 (by decide) ?_
      exact ret dX3_isWork_17 () (by rw [hres]; rfl) (by decide) hP hD hS
theorem iw_X3_isThing_X3 : ∀ w ∈ wsX30, w ∈ wsX3_isThing := by decide +kernel
theorem fm_X3_isThing_49 : Cond.fieldLink RX3 49 "EdgeBench" "ins" "I" ∈ wsX3_isThing := by decide +kernel
theorem fm_X3_isThing_52 : Cond.fieldLink RX3 52 "EdgeBench" "outs" "I" ∈ wsX3_isThing := by decide +kernel
set_option maxHeartbeats 4000000 in
set_option maxRecDepth 100000 in
theorem c_X3_isThing (l : Launch) (g : Gt) (e0 : Nat) (bi : Nat) (bo : Nat) (bw : Nat) (al : Nat) (ah : Nat) (az : Nat) (r0 : Nat) (s0 : Nat) (ac : Nat) (h9 : Nat) (x : Int32) (hbi : bi ≤ 2) (hbo : bo ≤ 2) : CI l yX3_isThing wsX3_isThing { frames := 0, cells := 0, slots := 0, locals := 0 } g [.ref (e0), .int (x)] [(e0, .inr (3, [.int (nI bi), .int (nI bo), .int (nI bw), .ref (al), .ref (ah), .ref (az), .ref (r0), .ref (s0), .ref (ac), .ref (h9)]))] (fun zr (zu : Unit) => zr = bI (inR x (bi + bo))) (fun (zu : Unit) => [(e0, .inr (3, [.int (nI bi), .int (nI bo), .int (nI bw), .ref (al), .ref (ah), .ref (az), .ref (r0), .ref (s0), .ref (ac), .ref (h9)]))]) 0 0 := by
  refine ent_z (cc := cX3_isThing) (maxL := 2) (by decide) rfl (Nat.le_of_ble_eq_true rfl) ?_
  intro p e s m below meth c A args Q hE ret ls hl
  obtain ⟨hx, hb, hml, hown, hts, hnm, hA, hP, hD, hK, hN⟩ := hE
  have hS : va_S A s.heap s.heap [] := va_S.rf
  have hl : lv_has ls 2 [(0, .ref (e0)), (1, .int (x))] := hl
  have hP : va_P g.1 vwCl [(e0, .inr (3, [.int (nI bi), .int (nI bo), .int (nI bw), .ref (al), .ref (ah), .ref (az), .ref (r0), .ref (s0), .ref (ac), .ref (h9)]))] s.heap := hP
  refine lv_iload_n hx hb dX3_isThing_0 rfl (lv_at hl 1 rfl) ?_
  refine lv_if_lt (tgt := 21) hx hb dX3_isThing_1 (by decide) (fun c_1 => ?_) (fun c_1 => ?_)
  · skip
    have hres : inR x (bi + bo) = false := decide_eq_false (by rw [i32_l0] at c_1; omega)
    refine lv_iconst (v := nI 0) hx hb dX3_isThing_21 (by decide) ?_
    exact ret dX3_isThing_22 () (by rw [hres]; rfl) (by decide) hP hD hS
  · skip
    have h0 := c_1
    rw [i32_l0] at h0
    refine lv_iload_n hx hb dX3_isThing_4 rfl (lv_at hl 1 rfl) ?_
    refine lv_aload_n hx hb dX3_isThing_5 rfl (lv_at hl 0 rfl) ?_
    refine k_get hx hb hts hown hK hP iw_X3_isThing_X3 rfl 0 0 fm_X3_isThing_49 (by decide) rfl rfl dX3_isThing_6 ?_
    refine lv_aload_n hx hb dX3_isThing_9 rfl (lv_at hl 0 rfl) ?_
    refine k_get hx hb hts hown hK hP iw_X3_isThing_X3 rfl 0 1 fm_X3_isThing_52 (by decide) rfl rfl dX3_isThing_10 ?_
    refine lv_iadd hx hb dX3_isThing_13 ?_
    refine k_ei (y := nI (bi + bo)) (nI_add _ _) ?_
    refine lv_icmp_ge (tgt := 21) hx hb dX3_isThing_14 (by decide) (fun c_2 => ?_) (fun c_2 => ?_)
    · skip
      have hres : inR x (bi + bo) = false := decide_eq_false (by rw [i32_geN (by omega)] at c_2; omega)
      refine lv_iconst (v := nI 0) hx hb dX3_isThing_21 (by decide) ?_
      exact ret dX3_isThing_22 () (by rw [hres]; rfl) (by decide) hP hD hS
    · skip
      have hres : inR x (bi + bo) = true := decide_eq_true (by rw [i32_geN (by omega)] at c_2; omega)
      refine lv_iconst (v := nI 1) hx hb dX3_isThing_17 (by decide) ?_
      refine lv_goto (tgt := 22) hx hb dX3_isThing_18 (by decide) ?_
      exact ret dX3_isThing_22 () (by rw [hres]; rfl) (by decide) hP hD hS
theorem iw_X3_isThere_X3 : ∀ w ∈ wsX30, w ∈ wsX3_isThere := by decide +kernel
theorem fm_X3_isThere_16 : Cond.fieldLink RX3 16 "EdgeBench" "there" "[Z" ∈ wsX3_isThere := by decide +kernel
set_option maxHeartbeats 4000000 in
set_option maxRecDepth 100000 in
theorem c_X3_isThere (l : Launch) (g : Gt) (e0 : Nat) (bi : Nat) (bo : Nat) (bw : Nat) (al : Nat) (ah : Nat) (az : Nat) (r0 : Nat) (s0 : Nat) (ac : Nat) (h9 : Nat) (th : Nat → Int32) (x : Int32) (hbw : bw ≤ 12) : CI l yX3_isThere wsX3_isThere { frames := 1, cells := 0, slots := 0, locals := 21 } g [.ref (e0), .int (x)] [(e0, .inr (3, [.int (nI bi), .int (nI bo), .int (nI bw), .ref (al), .ref (ah), .ref (az), .ref (r0), .ref (s0), .ref (ac), .ref (h9)])), (az, aZ g 12 th)] (fun zr (zu : Unit) => zr = bI (thB th bw x)) (fun (zu : Unit) => [(e0, .inr (3, [.int (nI bi), .int (nI bo), .int (nI bw), .ref (al), .ref (ah), .ref (az), .ref (r0), .ref (s0), .ref (ac), .ref (h9)])), (az, aZ g 12 th)]) 0 0 := by
  refine ent_z (cc := cX3_isThere) (maxL := 2) (by decide) rfl (Nat.le_of_ble_eq_true rfl) ?_
  intro p e s m below meth c A args Q hE ret ls hl
  obtain ⟨hx, hb, hml, hown, hts, hnm, hA, hP, hD, hK, hN⟩ := hE
  have hS : va_S A s.heap s.heap [] := va_S.rf
  have hl : lv_has ls 2 [(0, .ref (e0)), (1, .int (x))] := hl
  have hP : va_P g.1 vwCl [(e0, .inr (3, [.int (nI bi), .int (nI bo), .int (nI bw), .ref (al), .ref (ah), .ref (az), .ref (r0), .ref (s0), .ref (ac), .ref (h9)])), (az, aZ g 12 th)] s.heap := hP
  refine lv_aload_n hx hb dX3_isThere_0 rfl (lv_at hl 0 rfl) ?_
  refine lv_iload_n hx hb dX3_isThere_1 rfl (lv_at hl 1 rfl) ?_
  refine go_i (wc := [(e0, .inr (3, [.int (nI bi), .int (nI bo), .int (nI bw), .ref (al), .ref (ah), .ref (az), .ref (r0), .ref (s0), .ref (ac), .ref (h9)]))]) (wr := [(az, aZ g 12 th)]) hP hD hS hA [0] [1] rfl rfl rfl rfl (by decide) (fun hPc hDc => rn_V (As := [.int (x)]) (rest := []) ⟨hx, hb, hml, hown, hts⟩ ((c_X3_isWork l g e0 bi bo bw al ah az r0 s0 ac h9 x (by omega)) _) (cwV 1 hts gX3_isThere_X3_isWork rfl rfl rfl (by decide +kernel) ⟨Nat.le_of_ble_eq_true rfl, Nat.le_of_ble_eq_true rfl⟩) hK hN hPc hDc 0 rfl rfl rfl rfl hl.1 (Nat.le_of_ble_eq_true rfl) dX3_isThere_2 ⟨Nat.le_of_ble_eq_true rfl, Nat.le_of_ble_eq_true rfl⟩) ?_
  intro r_1 u_2 H locs h_3 hP hD hS
  have hP : va_P g.1 vwCl [(e0, .inr (3, [.int (nI bi), .int (nI bo), .int (nI bw), .ref (al), .ref (ah), .ref (az), .ref (r0), .ref (s0), .ref (ac), .ref (h9)])), (az, aZ g 12 th)] H := hP.sub [1, 0] rfl
  have hD : va_D A [(e0, .inr (3, [.int (nI bi), .int (nI bo), .int (nI bw), .ref (al), .ref (ah), .ref (az), .ref (r0), .ref (s0), .ref (ac), .ref (h9)])), (az, aZ g 12 th)] := hD.sub [1, 0] rfl rfl
  have h_3 : r_1 = bI (inR x bw) := h_3
  subst h_3
  refine lv_if_eq (tgt := 21) hx hb dX3_isThere_5 (by decide) (fun c_4 => ?_) (fun c_4 => ?_)
  · skip
    have hres : thB th bw x = false := by rw [thB, bI_eq0.mp c_4]; rfl
    refine lv_iconst (v := nI 0) hx hb dX3_isThere_21 (by decide) ?_
    exact ret dX3_isThere_22 () (by rw [hres]; rfl) (by decide) hP hD hS
  · skip
    have hin := bI_ne0.mp c_4
    obtain ⟨j, hj, hj2, hxj⟩ := inR_nI hin
    subst hxj
    refine lv_aload_n hx hb dX3_isThere_8 rfl (lv_at hl 0 rfl) ?_
    refine k_get hx hb hts hown hK hP iw_X3_isThere_X3 rfl 0 5 fm_X3_isThere_16 (by decide) rfl rfl dX3_isThere_9 ?_
    refine lv_iload_n hx hb dX3_isThere_12 rfl (lv_at hl 1 rfl) ?_
    refine k_zald hx hb hK hP 1 rfl (by omega) (by omega) dX3_isThere_13 ?_
    refine lv_if_eq (tgt := 21) hx hb dX3_isThere_14 (by decide) (fun c_5 => ?_) (fun c_5 => ?_)
    · skip
      have hres : thB th bw (nI j) = false := by rw [thB, hin, nI_tn hj2, decide_eq_true c_5]; rfl
      refine lv_iconst (v := nI 0) hx hb dX3_isThere_21 (by decide) ?_
      exact ret dX3_isThere_22 () (by rw [hres]; rfl) (by decide) hP hD hS
    · skip
      have hres : thB th bw (nI j) = true := by rw [thB, hin, nI_tn hj2, decide_eq_false c_5]; rfl
      refine lv_iconst (v := nI 1) hx hb dX3_isThere_17 (by decide) ?_
      refine lv_goto (tgt := 22) hx hb dX3_isThere_18 (by decide) ?_
      exact ret dX3_isThere_22 () (by rw [hres]; rfl) (by decide) hP hD hS
theorem iw_X3_isHeld_X3 : ∀ w ∈ wsX30, w ∈ wsX3_isHeld := by decide +kernel
theorem fm_X3_isHeld_23 : Cond.fieldLink RX3 23 "EdgeBench" "told" "LEdgeBench$Rows;" ∈ wsX3_isHeld := by decide +kernel
set_option maxHeartbeats 4000000 in
set_option maxRecDepth 100000 in
theorem c_X3_isHeld (l : Launch) (g : Gt) (e0 : Nat) (bi : Nat) (bo : Nat) (bw : Nat) (al : Nat) (ah : Nat) (az : Nat) (r0 : Nat) (s0 : Nat) (ac : Nat) (h9 : Nat) (th : Nat → Int32) (rn : Nat) (rp : Nat) (ri : Nat) (ro : Nat) (nu : Nat → Int32) (pt : Nat → Int32) (x : Int32) (hbw : bw ≤ 12) (hri : ri ≤ 2) (hro : ro ≤ 2) : CI l yX3_isHeld wsX3_isHeld { frames := 2, cells := 0, slots := 0, locals := 45 } g [.ref (e0), .int (x)] [(e0, .inr (3, [.int (nI bi), .int (nI bo), .int (nI bw), .ref (al), .ref (ah), .ref (az), .ref (r0), .ref (s0), .ref (ac), .ref (h9)])), (az, aZ g 12 th), (r0, .inr (2, [.int (nI ri), .int (nI ro), .ref (rn), .ref (rp)])), (rn, aI g 48 nu), (rp, aZ g 12 pt)] (fun zr (zu : Unit) => zr = bI (hdB th nu bw ri ro x)) (fun (zu : Unit) => [(e0, .inr (3, [.int (nI bi), .int (nI bo), .int (nI bw), .ref (al), .ref (ah), .ref (az), .ref (r0), .ref (s0), .ref (ac), .ref (h9)])), (az, aZ g 12 th), (r0, .inr (2, [.int (nI ri), .int (nI ro), .ref (rn), .ref (rp)])), (rn, aI g 48 nu), (rp, aZ g 12 pt)]) 0 0 := by
  refine ent_z (cc := cX3_isHeld) (maxL := 2) (by decide) rfl (Nat.le_of_ble_eq_true rfl) ?_
  intro p e s m below meth c A args Q hE ret ls hl
  obtain ⟨hx, hb, hml, hown, hts, hnm, hA, hP, hD, hK, hN⟩ := hE
  have hS : va_S A s.heap s.heap [] := va_S.rf
  have hl : lv_has ls 2 [(0, .ref (e0)), (1, .int (x))] := hl
  have hP : va_P g.1 vwCl [(e0, .inr (3, [.int (nI bi), .int (nI bo), .int (nI bw), .ref (al), .ref (ah), .ref (az), .ref (r0), .ref (s0), .ref (ac), .ref (h9)])), (az, aZ g 12 th), (r0, .inr (2, [.int (nI ri), .int (nI ro), .ref (rn), .ref (rp)])), (rn, aI g 48 nu), (rp, aZ g 12 pt)] s.heap := hP
  refine lv_aload_n hx hb dX3_isHeld_0 rfl (lv_at hl 0 rfl) ?_
  refine lv_iload_n hx hb dX3_isHeld_1 rfl (lv_at hl 1 rfl) ?_
  refine go_i (wc := [(e0, .inr (3, [.int (nI bi), .int (nI bo), .int (nI bw), .ref (al), .ref (ah), .ref (az), .ref (r0), .ref (s0), .ref (ac), .ref (h9)])), (az, aZ g 12 th)]) (wr := [(r0, .inr (2, [.int (nI ri), .int (nI ro), .ref (rn), .ref (rp)])), (rn, aI g 48 nu), (rp, aZ g 12 pt)]) hP hD hS hA [0, 1] [2, 3, 4] rfl rfl rfl rfl (by decide) (fun hPc hDc => rn_V (As := [.int (x)]) (rest := []) ⟨hx, hb, hml, hown, hts⟩ ((c_X3_isThere l g e0 bi bo bw al ah az r0 s0 ac h9 th x (by omega)) _) (cwV 1 hts gX3_isHeld_X3_isThere rfl rfl rfl (by decide +kernel) ⟨Nat.le_of_ble_eq_true rfl, Nat.le_of_ble_eq_true rfl⟩) hK hN hPc hDc 0 rfl rfl rfl rfl hl.1 (Nat.le_of_ble_eq_true rfl) dX3_isHeld_2 ⟨Nat.le_of_ble_eq_true rfl, Nat.le_of_ble_eq_true rfl⟩) ?_
  intro r_1 u_2 H locs h_3 hP hD hS
  have hP : va_P g.1 vwCl [(e0, .inr (3, [.int (nI bi), .int (nI bo), .int (nI bw), .ref (al), .ref (ah), .ref (az), .ref (r0), .ref (s0), .ref (ac), .ref (h9)])), (az, aZ g 12 th), (r0, .inr (2, [.int (nI ri), .int (nI ro), .ref (rn), .ref (rp)])), (rn, aI g 48 nu), (rp, aZ g 12 pt)] H := hP.sub [3, 4, 0, 1, 2] rfl
  have hD : va_D A [(e0, .inr (3, [.int (nI bi), .int (nI bo), .int (nI bw), .ref (al), .ref (ah), .ref (az), .ref (r0), .ref (s0), .ref (ac), .ref (h9)])), (az, aZ g 12 th), (r0, .inr (2, [.int (nI ri), .int (nI ro), .ref (rn), .ref (rp)])), (rn, aI g 48 nu), (rp, aZ g 12 pt)] := hD.sub [3, 4, 0, 1, 2] rfl rfl
  have h_3 : r_1 = bI (thB th bw x) := h_3
  subst h_3
  refine lv_if_eq (tgt := 34) hx hb dX3_isHeld_5 (by decide) (fun c_4 => ?_) (fun c_4 => ?_)
  · skip
    have hres : hdB th nu bw ri ro x = false := by rw [hdB, bI_eq0.mp c_4]; rfl
    refine lv_iconst (v := nI 0) hx hb dX3_isHeld_34 (by decide) ?_
    exact ret dX3_isHeld_35 () (by rw [hres]; rfl) (by decide) hP hD hS
  · skip
    have hin := bI_ne0.mp c_4
    have hin2 : inR x bw = true := by rw [thB] at hin; exact (Bool.and_eq_true _ _ |>.mp hin).1
    obtain ⟨j, hj, hj2, hxj⟩ := inR_nI hin2
    subst hxj
    refine lv_aload_n hx hb dX3_isHeld_8 rfl (lv_at hl 0 rfl) ?_
    refine k_get hx hb hts hown hK hP iw_X3_isHeld_X3 rfl 0 6 fm_X3_isHeld_23 (by decide) rfl rfl dX3_isHeld_9 ?_
    refine lv_iload_n hx hb dX3_isHeld_12 rfl (lv_at hl 1 rfl) ?_
    refine go_i (wc := [(r0, .inr (2, [.int (nI ri), .int (nI ro), .ref (rn), .ref (rp)])), (rn, aI g 48 nu), (rp, aZ g 12 pt)]) (wr := [(e0, .inr (3, [.int (nI bi), .int (nI bo), .int (nI bw), .ref (al), .ref (ah), .ref (az), .ref (r0), .ref (s0), .ref (ac), .ref (h9)])), (az, aZ g 12 th)]) hP hD hS hA [2, 3, 4] [0, 1] rfl rfl rfl rfl (by decide) (fun hPc hDc => rn_VN (As := [.int (nI j)]) (rest := []) ⟨hx, hb, hml, hown, hts⟩ ((c_X2_takes l g r0 rn rp ri ro nu pt j (by omega) (by omega) (by omega)) _) (⟨va_cnB 1 hts gX3_isHeld_X2_takes_n136 rfl rfl rfl (hN.2 _ (List.mem_of_getElem? (i := 2) rfl)) (hts _ (by decide +kernel)) (by decide +kernel) ⟨Nat.le_of_ble_eq_true rfl, Nat.le_of_ble_eq_true rfl⟩, hts _ (by decide +kernel), hts _ (by decide +kernel)⟩) hK hN hPc hDc 0 rfl rfl rfl rfl hl.1 (Nat.le_of_ble_eq_true rfl) dX3_isHeld_13 ⟨Nat.le_of_ble_eq_true rfl, Nat.le_of_ble_eq_true rfl⟩) ?_
    intro r_5 u_6 H locs h_7 hP hD hS
    have hP : va_P g.1 vwCl [(e0, .inr (3, [.int (nI bi), .int (nI bo), .int (nI bw), .ref (al), .ref (ah), .ref (az), .ref (r0), .ref (s0), .ref (ac), .ref (h9)])), (az, aZ g 12 th), (r0, .inr (2, [.int (nI ri), .int (nI ro), .ref (rn), .ref (rp)])), (rn, aI g 48 nu), (rp, aZ g 12 pt)] H := hP.sub [0, 1, 2, 3, 4] rfl
    have hD : va_D A [(e0, .inr (3, [.int (nI bi), .int (nI bo), .int (nI bw), .ref (al), .ref (ah), .ref (az), .ref (r0), .ref (s0), .ref (ac), .ref (h9)])), (az, aZ g 12 th), (r0, .inr (2, [.int (nI ri), .int (nI ro), .ref (rn), .ref (rp)])), (rn, aI g 48 nu), (rp, aZ g 12 pt)] := hD.sub [0, 1, 2, 3, 4] rfl rfl
    have h_7 : r_5 = bI (!allZ nu (j * 4 + 0) (ri - 0)) := h_7
    subst h_7
    refine lv_if_eq (tgt := 34) hx hb dX3_isHeld_16 (by decide) (fun c_8 => ?_) (fun c_8 => ?_)
    · skip
      have hres : hdB th nu bw ri ro (nI j) = false := by rw [hdB, hin, nI_tn hj2, bI_eq0.mp c_8]; rfl
      refine lv_iconst (v := nI 0) hx hb dX3_isHeld_34 (by decide) ?_
      exact ret dX3_isHeld_35 () (by rw [hres]; rfl) (by decide) hP hD hS
    · skip
      have h1 := bI_ne0.mp c_8
      refine lv_aload_n hx hb dX3_isHeld_19 rfl (lv_at hl 0 rfl) ?_
      refine k_get hx hb hts hown hK hP iw_X3_isHeld_X3 rfl 0 6 fm_X3_isHeld_23 (by decide) rfl rfl dX3_isHeld_20 ?_
      refine lv_iload_n hx hb dX3_isHeld_23 rfl (lv_at hl 1 rfl) ?_
      refine go_i (wc := [(r0, .inr (2, [.int (nI ri), .int (nI ro), .ref (rn), .ref (rp)])), (rn, aI g 48 nu), (rp, aZ g 12 pt)]) (wr := [(e0, .inr (3, [.int (nI bi), .int (nI bo), .int (nI bw), .ref (al), .ref (ah), .ref (az), .ref (r0), .ref (s0), .ref (ac), .ref (h9)])), (az, aZ g 12 th)]) hP hD hS hA [2, 3, 4] [0, 1] rfl rfl rfl rfl (by decide) (fun hPc hDc => rn_VN (As := [.int (nI j)]) (rest := []) ⟨hx, hb, hml, hown, hts⟩ ((c_X2_gives l g r0 rn rp ri ro nu pt j (by omega) (by omega) (by omega)) _) (⟨va_cnB 1 hts gX3_isHeld_X2_gives_n177 rfl rfl rfl (hN.2 _ (List.mem_of_getElem? (i := 4) rfl)) (hts _ (by decide +kernel)) (by decide +kernel) ⟨Nat.le_of_ble_eq_true rfl, Nat.le_of_ble_eq_true rfl⟩, hts _ (by decide +kernel), hts _ (by decide +kernel)⟩) hK hN hPc hDc 0 rfl rfl rfl rfl hl.1 (Nat.le_of_ble_eq_true rfl) dX3_isHeld_24 ⟨Nat.le_of_ble_eq_true rfl, Nat.le_of_ble_eq_true rfl⟩) ?_
      intro r_9 u_10 H locs h_11 hP hD hS
      have hP : va_P g.1 vwCl [(e0, .inr (3, [.int (nI bi), .int (nI bo), .int (nI bw), .ref (al), .ref (ah), .ref (az), .ref (r0), .ref (s0), .ref (ac), .ref (h9)])), (az, aZ g 12 th), (r0, .inr (2, [.int (nI ri), .int (nI ro), .ref (rn), .ref (rp)])), (rn, aI g 48 nu), (rp, aZ g 12 pt)] H := hP.sub [0, 1, 2, 3, 4] rfl
      have hD : va_D A [(e0, .inr (3, [.int (nI bi), .int (nI bo), .int (nI bw), .ref (al), .ref (ah), .ref (az), .ref (r0), .ref (s0), .ref (ac), .ref (h9)])), (az, aZ g 12 th), (r0, .inr (2, [.int (nI ri), .int (nI ro), .ref (rn), .ref (rp)])), (rn, aI g 48 nu), (rp, aZ g 12 pt)] := hD.sub [0, 1, 2, 3, 4] rfl rfl
      have h_11 : r_9 = bI (!allZ nu (j * 4 + ri) (ri + ro - ri)) := h_11
      subst h_11
      refine lv_if_eq (tgt := 34) hx hb dX3_isHeld_27 (by decide) (fun c_12 => ?_) (fun c_12 => ?_)
      · skip
        have hres : hdB th nu bw ri ro (nI j) = false := by rw [hdB, hin, nI_tn hj2, h1, bI_eq0.mp c_12]; rfl
        refine lv_iconst (v := nI 0) hx hb dX3_isHeld_34 (by decide) ?_
        exact ret dX3_isHeld_35 () (by rw [hres]; rfl) (by decide) hP hD hS
      · skip
        have hres : hdB th nu bw ri ro (nI j) = true := by rw [hdB, hin, nI_tn hj2, h1, bI_ne0.mp c_12]; rfl
        refine lv_iconst (v := nI 1) hx hb dX3_isHeld_30 (by decide) ?_
        refine lv_goto (tgt := 35) hx hb dX3_isHeld_31 (by decide) ?_
        exact ret dX3_isHeld_35 () (by rw [hres]; rfl) (by decide) hP hD hS
theorem iw_X3_worksThere_X3 : ∀ w ∈ wsX30, w ∈ wsX3_worksThere := by decide +kernel
theorem fm_X3_worksThere_45 : Cond.fieldLink RX3 45 "EdgeBench" "works" "I" ∈ wsX3_worksThere := by decide +kernel
theorem fm_X3_worksThere_16 : Cond.fieldLink RX3 16 "EdgeBench" "there" "[Z" ∈ wsX3_worksThere := by decide +kernel
set_option maxHeartbeats 4000000 in
set_option maxRecDepth 100000 in
theorem c_X3_worksThere (l : Launch) (g : Gt) (e0 : Nat) (bi : Nat) (bo : Nat) (bw : Nat) (al : Nat) (ah : Nat) (az : Nat) (r0 : Nat) (s0 : Nat) (ac : Nat) (h9 : Nat) (th : Nat → Int32) (hbw : bw ≤ 12) : CI l yX3_worksThere wsX3_worksThere { frames := 0, cells := 0, slots := 0, locals := 0 } g [.ref (e0)] [(e0, .inr (3, [.int (nI bi), .int (nI bo), .int (nI bw), .ref (al), .ref (ah), .ref (az), .ref (r0), .ref (s0), .ref (ac), .ref (h9)])), (az, aZ g 12 th)] (fun zr (zu : Unit) => zr = nI (cntT th 0 bw)) (fun (zu : Unit) => [(e0, .inr (3, [.int (nI bi), .int (nI bo), .int (nI bw), .ref (al), .ref (ah), .ref (az), .ref (r0), .ref (s0), .ref (ac), .ref (h9)])), (az, aZ g 12 th)]) 0 0 := by
  refine ent_i (cc := cX3_worksThere) (maxL := 3) (by decide) rfl (Nat.le_of_ble_eq_true rfl) ?_
  intro p e s m below meth c A args Q hE ret ls hl
  obtain ⟨hx, hb, hml, hown, hts, hnm, hA, hP, hD, hK, hN⟩ := hE
  have hS : va_S A s.heap s.heap [] := va_S.rf
  have hl : lv_has ls 3 [(0, .ref (e0))] := hl
  have hP : va_P g.1 vwCl [(e0, .inr (3, [.int (nI bi), .int (nI bo), .int (nI bw), .ref (al), .ref (ah), .ref (az), .ref (r0), .ref (s0), .ref (ac), .ref (h9)])), (az, aZ g 12 th)] s.heap := hP
  refine lv_iconst (v := nI 0) hx hb dX3_worksThere_0 (by decide) ?_
  refine lv_istore_n (lv' := [(1, .int (nI 0)), (0, .ref (e0))]) hx hb dX3_worksThere_1 rfl hl (by decide) rfl (fun ls hl => ?_)
  refine lv_iconst (v := nI 0) hx hb dX3_worksThere_2 (by decide) ?_
  refine lv_istore_n (lv' := [(2, .int (nI 0)), (1, .int (nI 0)), (0, .ref (e0))]) hx hb dX3_worksThere_3 rfl hl (by decide) rfl (fun ls hl => ?_)
  have lp_4 : ∀ (n : Nat) (k : Nat) (q : Nat), bw - k < n → k ≤ bw → cntT th 0 bw = q + cntT th k (bw - k) → ∀ (H : Heap) (locs : List Loc), va_P g.1 vwCl [(e0, .inr (3, [.int (nI bi), .int (nI bo), .int (nI bw), .ref (al), .ref (ah), .ref (az), .ref (r0), .ref (s0), .ref (ac), .ref (h9)])), (az, aZ g 12 th)] H → va_D A [(e0, .inr (3, [.int (nI bi), .int (nI bo), .int (nI bw), .ref (al), .ref (ah), .ref (az), .ref (r0), .ref (s0), .ref (ac), .ref (h9)])), (az, aZ g 12 th)] → va_S A s.heap H locs → ∀ ls : Array Slot, lv_has ls 3 [(0, .ref (e0)), (1, .int (nI q)), (2, .int (nI k))] → W p l e { frames := 0, cells := 0, slots := 0, locals := 0 } s m args below meth c H locs 0 0 Q (F0 m 4 ls []) := by
    intro n
    induction n with
    | zero =>
      intro k q hms
      omega
    | succ n ih_4 =>
      intro k q hms_4 hk hv H locs hP hD hS ls hl
      refine lv_iload_n hx hb dX3_worksThere_4 rfl (lv_at hl 2 rfl) ?_
      refine lv_aload_n hx hb dX3_worksThere_5 rfl (lv_at hl 0 rfl) ?_
      refine k_get hx hb hts hown hK hP iw_X3_worksThere_X3 rfl 0 2 fm_X3_worksThere_45 (by decide) rfl rfl dX3_worksThere_6 ?_
      refine lv_icmp_ge (tgt := 30) hx hb dX3_worksThere_9 (by decide) (fun c_1 => ?_) (fun c_1 => ?_)
      · skip
        have c_1 := (nI_leI (by omega) (by omega)).mp c_1
        refine lv_iload_n hx hb dX3_worksThere_30 rfl (lv_at hl 1 rfl) ?_
        exact ret dX3_worksThere_31 () (by rw [hv, show bw - k = 0 by omega]; rfl) hP hD hS
      · skip
        have c_1 := mt (nI_leI (by omega) (by omega)).mpr c_1
        refine lv_aload_n hx hb dX3_worksThere_12 rfl (lv_at hl 0 rfl) ?_
        refine k_get hx hb hts hown hK hP iw_X3_worksThere_X3 rfl 0 5 fm_X3_worksThere_16 (by decide) rfl rfl dX3_worksThere_13 ?_
        refine lv_iload_n hx hb dX3_worksThere_16 rfl (lv_at hl 2 rfl) ?_
        refine k_zald hx hb hK hP 1 rfl (by omega) (by omega) dX3_worksThere_17 ?_
        refine lv_if_eq (tgt := 24) hx hb dX3_worksThere_18 (by decide) (fun c_2 => ?_) (fun c_2 => ?_)
        · skip
          have hv2 : cntT th 0 bw = q + cntT th (k + 1) (bw - (k + 1)) := by rw [hv, show bw - k = (bw - (k + 1)) + 1 by omega, cntT, if_pos c_2, Nat.zero_add]
          refine lv_iinc (v := nI (k + 1)) (lv' := [(2, .int (nI (k + 1))), (0, .ref (e0)), (1, .int (nI q))]) hx hb dX3_worksThere_24 hl (k := 2) rfl (nI_inc1 k) (by decide) rfl (fun ls hl => ?_)
          refine lv_goto (tgt := 4) hx hb dX3_worksThere_27 (by decide) ?_
          exact ih_4 (k + 1) q (by omega) (by omega) hv2 _ _ hP hD hS ls (lv_sub hl [1, 2, 0] rfl)
        · skip
          have hv2 : cntT th 0 bw = q + 1 + cntT th (k + 1) (bw - (k + 1)) := by rw [hv, show bw - k = (bw - (k + 1)) + 1 by omega, cntT, if_neg c_2, Nat.add_assoc]
          refine lv_iinc (v := nI (q + 1)) (lv' := [(1, .int (nI (q + 1))), (0, .ref (e0)), (2, .int (nI k))]) hx hb dX3_worksThere_21 hl (k := 1) rfl (nI_inc1 q) (by decide) rfl (fun ls hl => ?_)
          refine lv_iinc (v := nI (k + 1)) (lv' := [(2, .int (nI (k + 1))), (1, .int (nI (q + 1))), (0, .ref (e0))]) hx hb dX3_worksThere_24 hl (k := 2) rfl (nI_inc1 k) (by decide) rfl (fun ls hl => ?_)
          refine lv_goto (tgt := 4) hx hb dX3_worksThere_27 (by decide) ?_
          exact ih_4 (k + 1) (q + 1) (by omega) (by omega) hv2 _ _ hP hD hS ls (lv_sub hl [2, 1, 0] rfl)
  exact lp_4 (bw - 0 + 1) 0 0 (by omega) (by omega) (by rw [Nat.zero_add]; rfl) _ _ hP hD hS ls (lv_sub hl [2, 1, 0] rfl)
theorem iw_X3_missingThere_X3 : ∀ w ∈ wsX30, w ∈ wsX3_missingThere := by decide +kernel
theorem fm_X3_missingThere_45 : Cond.fieldLink RX3 45 "EdgeBench" "works" "I" ∈ wsX3_missingThere := by decide +kernel
theorem fm_X3_missingThere_49 : Cond.fieldLink RX3 49 "EdgeBench" "ins" "I" ∈ wsX3_missingThere := by decide +kernel
theorem fm_X3_missingThere_52 : Cond.fieldLink RX3 52 "EdgeBench" "outs" "I" ∈ wsX3_missingThere := by decide +kernel
theorem fm_X3_missingThere_16 : Cond.fieldLink RX3 16 "EdgeBench" "there" "[Z" ∈ wsX3_missingThere := by decide +kernel
theorem fm_X3_missingThere_9 : Cond.fieldLink RX3 9 "EdgeBench" "low" "[I" ∈ wsX3_missingThere := by decide +kernel
theorem fm_X3_missingThere_13 : Cond.fieldLink RX3 13 "EdgeBench" "high" "[I" ∈ wsX3_missingThere := by decide +kernel
set_option maxHeartbeats 4000000 in
set_option maxRecDepth 100000 in
theorem c_X3_missingThere (l : Launch) (g : Gt) (e0 : Nat) (bi : Nat) (bo : Nat) (bw : Nat) (al : Nat) (ah : Nat) (az : Nat) (r0 : Nat) (s0 : Nat) (ac : Nat) (h9 : Nat) (lo : Nat → Int32) (hi : Nat → Int32) (th : Nat → Int32) (hbw : bw ≤ 12) (hbi : bi ≤ 2) (hbo : bo ≤ 2) : CI l yX3_missingThere wsX3_missingThere { frames := 0, cells := 0, slots := 0, locals := 0 } g [.ref (e0)] [(e0, .inr (3, [.int (nI bi), .int (nI bo), .int (nI bw), .ref (al), .ref (ah), .ref (az), .ref (r0), .ref (s0), .ref (ac), .ref (h9)])), (al, aI g 48 lo), (ah, aI g 48 hi), (az, aZ g 12 th)] (fun zr (zu : Unit) => zr = nI (msO lo hi th (bi + bo) 0 bw)) (fun (zu : Unit) => [(e0, .inr (3, [.int (nI bi), .int (nI bo), .int (nI bw), .ref (al), .ref (ah), .ref (az), .ref (r0), .ref (s0), .ref (ac), .ref (h9)])), (al, aI g 48 lo), (ah, aI g 48 hi), (az, aZ g 12 th)]) 0 0 := by
  refine ent_i (cc := cX3_missingThere) (maxL := 5) (by decide) rfl (Nat.le_of_ble_eq_true rfl) ?_
  intro p e s m below meth c A args Q hE ret ls hl
  obtain ⟨hx, hb, hml, hown, hts, hnm, hA, hP, hD, hK, hN⟩ := hE
  have hS : va_S A s.heap s.heap [] := va_S.rf
  have hl : lv_has ls 5 [(0, .ref (e0))] := hl
  have hP : va_P g.1 vwCl [(e0, .inr (3, [.int (nI bi), .int (nI bo), .int (nI bw), .ref (al), .ref (ah), .ref (az), .ref (r0), .ref (s0), .ref (ac), .ref (h9)])), (al, aI g 48 lo), (ah, aI g 48 hi), (az, aZ g 12 th)] s.heap := hP
  refine lv_iconst (v := nI 0) hx hb dX3_missingThere_0 (by decide) ?_
  refine lv_istore_n (lv' := [(1, .int (nI 0)), (0, .ref (e0))]) hx hb dX3_missingThere_1 rfl hl (by decide) rfl (fun ls hl => ?_)
  refine lv_iconst (v := nI 0) hx hb dX3_missingThere_2 (by decide) ?_
  refine lv_istore_n (lv' := [(2, .int (nI 0)), (1, .int (nI 0)), (0, .ref (e0))]) hx hb dX3_missingThere_3 rfl hl (by decide) rfl (fun ls hl => ?_)
  have lp_4 : ∀ (n : Nat) (w : Nat) (q : Nat), bw - w < n → w ≤ bw → msO lo hi th (bi + bo) 0 bw = q + msO lo hi th (bi + bo) w (bw - w) → ∀ (H : Heap) (locs : List Loc), va_P g.1 vwCl [(e0, .inr (3, [.int (nI bi), .int (nI bo), .int (nI bw), .ref (al), .ref (ah), .ref (az), .ref (r0), .ref (s0), .ref (ac), .ref (h9)])), (al, aI g 48 lo), (ah, aI g 48 hi), (az, aZ g 12 th)] H → va_D A [(e0, .inr (3, [.int (nI bi), .int (nI bo), .int (nI bw), .ref (al), .ref (ah), .ref (az), .ref (r0), .ref (s0), .ref (ac), .ref (h9)])), (al, aI g 48 lo), (ah, aI g 48 hi), (az, aZ g 12 th)] → va_S A s.heap H locs → ∀ ls : Array Slot, lv_has ls 5 [(0, .ref (e0)), (1, .int (nI q)), (2, .int (nI w))] → W p l e { frames := 0, cells := 0, slots := 0, locals := 0 } s m args below meth c H locs 0 0 Q (F0 m 4 ls []) := by
    intro n
    induction n with
    | zero =>
      intro w q hms
      omega
    | succ n ih_4 =>
      intro w q hms_4 hw hv H locs hP hD hS ls hl
      refine lv_iload_n hx hb dX3_missingThere_4 rfl (lv_at hl 2 rfl) ?_
      refine lv_aload_n hx hb dX3_missingThere_5 rfl (lv_at hl 0 rfl) ?_
      refine k_get hx hb hts hown hK hP iw_X3_missingThere_X3 rfl 0 2 fm_X3_missingThere_45 (by decide) rfl rfl dX3_missingThere_6 ?_
      refine lv_icmp_ge (tgt := 75) hx hb dX3_missingThere_9 (by decide) (fun c_1 => ?_) (fun c_1 => ?_)
      · skip
        have c_1 := (nI_leI (by omega) (by omega)).mp c_1
        refine lv_iload_n hx hb dX3_missingThere_75 rfl (lv_at hl 1 rfl) ?_
        exact ret dX3_missingThere_76 () (by rw [hv, show bw - w = 0 by omega]; rfl) hP hD hS
      · skip
        have c_1 := mt (nI_leI (by omega) (by omega)).mpr c_1
        refine lv_iconst (v := nI 0) hx hb dX3_missingThere_12 (by decide) ?_
        refine lv_istore_n (lv' := [(3, .int (nI 0)), (0, .ref (e0)), (1, .int (nI q)), (2, .int (nI w))]) hx hb dX3_missingThere_13 rfl hl (by decide) rfl (fun ls hl => ?_)
        have lp_14 : ∀ (n : Nat) (k : Nat) (q : Nat), bi + bo - k < n → k ≤ 4 → msO lo hi th (bi + bo) 0 bw = q + (msI lo hi th w k (bi + bo - k) + msO lo hi th (bi + bo) (w + 1) (bw - (w + 1))) → ∀ (H : Heap) (locs : List Loc), va_P g.1 vwCl [(e0, .inr (3, [.int (nI bi), .int (nI bo), .int (nI bw), .ref (al), .ref (ah), .ref (az), .ref (r0), .ref (s0), .ref (ac), .ref (h9)])), (al, aI g 48 lo), (ah, aI g 48 hi), (az, aZ g 12 th)] H → va_D A [(e0, .inr (3, [.int (nI bi), .int (nI bo), .int (nI bw), .ref (al), .ref (ah), .ref (az), .ref (r0), .ref (s0), .ref (ac), .ref (h9)])), (al, aI g 48 lo), (ah, aI g 48 hi), (az, aZ g 12 th)] → va_S A s.heap H locs → ∀ ls : Array Slot, lv_has ls 5 [(0, .ref (e0)), (1, .int (nI q)), (2, .int (nI w)), (3, .int (nI k))] → W p l e { frames := 0, cells := 0, slots := 0, locals := 0 } s m args below meth c H locs 0 0 Q (F0 m 14 ls []) := by
          intro n
          induction n with
          | zero =>
            intro k q hms
            omega
          | succ n ih_14 =>
            intro k q hms_14 hk hI H locs hP hD hS ls hl
            refine lv_iload_n hx hb dX3_missingThere_14 rfl (lv_at hl 3 rfl) ?_
            refine lv_aload_n hx hb dX3_missingThere_15 rfl (lv_at hl 0 rfl) ?_
            refine k_get hx hb hts hown hK hP iw_X3_missingThere_X3 rfl 0 0 fm_X3_missingThere_49 (by decide) rfl rfl dX3_missingThere_16 ?_
            refine lv_aload_n hx hb dX3_missingThere_19 rfl (lv_at hl 0 rfl) ?_
            refine k_get hx hb hts hown hK hP iw_X3_missingThere_X3 rfl 0 1 fm_X3_missingThere_52 (by decide) rfl rfl dX3_missingThere_20 ?_
            refine lv_iadd hx hb dX3_missingThere_23 ?_
            refine k_ei (y := nI (bi + bo)) (nI_add _ _) ?_
            refine lv_icmp_ge (tgt := 69) hx hb dX3_missingThere_24 (by decide) (fun c_2 => ?_) (fun c_2 => ?_)
            · skip
              have c_2 := (nI_leI (by omega) (by omega)).mp c_2
              have hv2 : msO lo hi th (bi + bo) 0 bw = q + msO lo hi th (bi + bo) (w + 1) (bw - (w + 1)) := by rw [hI, show bi + bo - k = 0 by omega, msI, Nat.zero_add]
              refine lv_iinc (v := nI (w + 1)) (lv' := [(2, .int (nI (w + 1))), (0, .ref (e0)), (1, .int (nI q)), (3, .int (nI k))]) hx hb dX3_missingThere_69 hl (k := 2) rfl (nI_inc1 w) (by decide) rfl (fun ls hl => ?_)
              refine lv_goto (tgt := 4) hx hb dX3_missingThere_72 (by decide) ?_
              exact ih_4 (w + 1) q (by omega) (by omega) hv2 _ _ hP hD hS ls (lv_sub hl [1, 2, 0] rfl)
            · skip
              have c_2 := mt (nI_leI (by omega) (by omega)).mpr c_2
              refine lv_iload_n hx hb dX3_missingThere_27 rfl (lv_at hl 2 rfl) ?_
              refine lv_iconst (v := nI 4) hx hb dX3_missingThere_28 (by decide) ?_
              refine lv_imul hx hb dX3_missingThere_29 ?_
              refine k_ei (y := nI (w * 4)) (pk_mul _ _) ?_
              refine lv_iload_n hx hb dX3_missingThere_30 rfl (lv_at hl 3 rfl) ?_
              refine lv_iadd hx hb dX3_missingThere_31 ?_
              refine k_ei (y := nI (w * 4 + k)) (nI_add _ _) ?_
              refine lv_istore (lv' := [(4, .int (nI (w * 4 + k))), (0, .ref (e0)), (1, .int (nI q)), (2, .int (nI w)), (3, .int (nI k))]) hx hb dX3_missingThere_32 hl (by decide) rfl (fun ls hl => ?_)
              refine lv_aload_n hx hb dX3_missingThere_34 rfl (lv_at hl 1 rfl) ?_
              refine k_get hx hb hts hown hK hP iw_X3_missingThere_X3 rfl 0 5 fm_X3_missingThere_16 (by decide) rfl rfl dX3_missingThere_35 ?_
              refine lv_iload_n hx hb dX3_missingThere_38 rfl (lv_at hl 3 rfl) ?_
              refine k_zald hx hb hK hP 3 rfl (by omega) (by omega) dX3_missingThere_39 ?_
              refine lv_if_eq (tgt := 63) hx hb dX3_missingThere_40 (by decide) (fun c_3 => ?_) (fun c_3 => ?_)
              · skip
                have hI2 : msO lo hi th (bi + bo) 0 bw = q + (msI lo hi th w (k + 1) (bi + bo - (k + 1)) + msO lo hi th (bi + bo) (w + 1) (bw - (w + 1))) := by rw [hI, show bi + bo - k = (bi + bo - (k + 1)) + 1 by omega, msI, if_neg (fun z => z.1 c_3), Nat.zero_add]
                refine lv_iinc (v := nI (k + 1)) (lv' := [(3, .int (nI (k + 1))), (4, .int (nI (w * 4 + k))), (0, .ref (e0)), (1, .int (nI q)), (2, .int (nI w))]) hx hb dX3_missingThere_63 hl (k := 4) rfl (nI_inc1 k) (by decide) rfl (fun ls hl => ?_)
                refine lv_goto (tgt := 14) hx hb dX3_missingThere_66 (by decide) ?_
                exact ih_14 (k + 1) q (by omega) (by omega) hI2 _ _ hP hD hS ls (lv_sub hl [2, 3, 4, 0] rfl)
              · skip
                have h1 := c_3
                refine lv_aload_n hx hb dX3_missingThere_43 rfl (lv_at hl 1 rfl) ?_
                refine k_get hx hb hts hown hK hP iw_X3_missingThere_X3 rfl 0 3 fm_X3_missingThere_9 (by decide) rfl rfl dX3_missingThere_44 ?_
                refine lv_iload hx hb dX3_missingThere_47 (lv_at hl 0 rfl) ?_
                refine k_iald hx hb hK hP 1 rfl (by omega) (by omega) dX3_missingThere_49 ?_
                refine lv_aload_n hx hb dX3_missingThere_50 rfl (lv_at hl 1 rfl) ?_
                refine k_get hx hb hts hown hK hP iw_X3_missingThere_X3 rfl 0 4 fm_X3_missingThere_13 (by decide) rfl rfl dX3_missingThere_51 ?_
                refine lv_iload hx hb dX3_missingThere_54 (lv_at hl 0 rfl) ?_
                refine k_iald hx hb hK hP 2 rfl (by omega) (by omega) dX3_missingThere_56 ?_
                refine lv_icmp_ge (tgt := 63) hx hb dX3_missingThere_57 (by decide) (fun c_4 => ?_) (fun c_4 => ?_)
                · skip
                  have hI2 : msO lo hi th (bi + bo) 0 bw = q + (msI lo hi th w (k + 1) (bi + bo - (k + 1)) + msO lo hi th (bi + bo) (w + 1) (bw - (w + 1))) := by rw [hI, show bi + bo - k = (bi + bo - (k + 1)) + 1 by omega, msI, if_neg (fun z => by have z := z.2; rw [i32_lt] at z; rw [i32_le] at c_4; omega), Nat.zero_add]
                  refine lv_iinc (v := nI (k + 1)) (lv' := [(3, .int (nI (k + 1))), (4, .int (nI (w * 4 + k))), (0, .ref (e0)), (1, .int (nI q)), (2, .int (nI w))]) hx hb dX3_missingThere_63 hl (k := 4) rfl (nI_inc1 k) (by decide) rfl (fun ls hl => ?_)
                  refine lv_goto (tgt := 14) hx hb dX3_missingThere_66 (by decide) ?_
                  exact ih_14 (k + 1) q (by omega) (by omega) hI2 _ _ hP hD hS ls (lv_sub hl [2, 3, 4, 0] rfl)
                · skip
                  have hI2 : msO lo hi th (bi + bo) 0 bw = q + 1 + (msI lo hi th w (k + 1) (bi + bo - (k + 1)) + msO lo hi th (bi + bo) (w + 1) (bw - (w + 1))) := by rw [hI, show bi + bo - k = (bi + bo - (k + 1)) + 1 by omega, msI, if_pos ⟨h1, by rw [i32_lt]; rw [i32_le] at c_4; omega⟩]; omega
                  refine lv_iinc (v := nI (q + 1)) (lv' := [(1, .int (nI (q + 1))), (4, .int (nI (w * 4 + k))), (0, .ref (e0)), (2, .int (nI w)), (3, .int (nI k))]) hx hb dX3_missingThere_60 hl (k := 2) rfl (nI_inc1 q) (by decide) rfl (fun ls hl => ?_)
                  refine lv_iinc (v := nI (k + 1)) (lv' := [(3, .int (nI (k + 1))), (1, .int (nI (q + 1))), (4, .int (nI (w * 4 + k))), (0, .ref (e0)), (2, .int (nI w))]) hx hb dX3_missingThere_63 hl (k := 4) rfl (nI_inc1 k) (by decide) rfl (fun ls hl => ?_)
                  refine lv_goto (tgt := 14) hx hb dX3_missingThere_66 (by decide) ?_
                  exact ih_14 (k + 1) (q + 1) (by omega) (by omega) hI2 _ _ hP hD hS ls (lv_sub hl [3, 1, 4, 0] rfl)
        exact lp_14 (bi + bo - 0 + 1) 0 q (by omega) (by omega) (by rw [hv, show bw - w = (bw - (w + 1)) + 1 by omega]; rfl) _ _ hP hD hS ls (lv_sub hl [1, 2, 3, 0] rfl)
  exact lp_4 (bw - 0 + 1) 0 0 (by omega) (by omega) (by rw [Nat.zero_add]; rfl) _ _ hP hD hS ls (lv_sub hl [2, 1, 0] rfl)
theorem iw_X3_someMayBeBare_X3 : ∀ w ∈ wsX30, w ∈ wsX3_someMayBeBare := by decide +kernel
theorem fm_X3_someMayBeBare_45 : Cond.fieldLink RX3 45 "EdgeBench" "works" "I" ∈ wsX3_someMayBeBare := by decide +kernel
theorem fm_X3_someMayBeBare_16 : Cond.fieldLink RX3 16 "EdgeBench" "there" "[Z" ∈ wsX3_someMayBeBare := by decide +kernel
theorem fm_X3_someMayBeBare_9 : Cond.fieldLink RX3 9 "EdgeBench" "low" "[I" ∈ wsX3_someMayBeBare := by decide +kernel
theorem fm_X3_someMayBeBare_49 : Cond.fieldLink RX3 49 "EdgeBench" "ins" "I" ∈ wsX3_someMayBeBare := by decide +kernel
theorem fm_X3_someMayBeBare_52 : Cond.fieldLink RX3 52 "EdgeBench" "outs" "I" ∈ wsX3_someMayBeBare := by decide +kernel
set_option maxHeartbeats 4000000 in
set_option maxRecDepth 100000 in
theorem c_X3_someMayBeBare (l : Launch) (g : Gt) (e0 : Nat) (bi : Nat) (bo : Nat) (bw : Nat) (al : Nat) (ah : Nat) (az : Nat) (r0 : Nat) (s0 : Nat) (ac : Nat) (h9 : Nat) (lo : Nat → Int32) (th : Nat → Int32) (hbw : bw ≤ 12) (hbi : bi ≤ 2) (hbo : bo ≤ 2) : CI l yX3_someMayBeBare wsX3_someMayBeBare { frames := 1, cells := 0, slots := 0, locals := 24 } g [.ref (e0)] [(e0, .inr (3, [.int (nI bi), .int (nI bo), .int (nI bw), .ref (al), .ref (ah), .ref (az), .ref (r0), .ref (s0), .ref (ac), .ref (h9)])), (al, aI g 48 lo), (az, aZ g 12 th)] (fun zr (zu : Unit) => zr = bI (brB lo th bi bo 0 bw)) (fun (zu : Unit) => [(e0, .inr (3, [.int (nI bi), .int (nI bo), .int (nI bw), .ref (al), .ref (ah), .ref (az), .ref (r0), .ref (s0), .ref (ac), .ref (h9)])), (al, aI g 48 lo), (az, aZ g 12 th)]) 0 0 := by
  refine ent_z (cc := cX3_someMayBeBare) (maxL := 2) (by decide) rfl (Nat.le_of_ble_eq_true rfl) ?_
  intro p e s m below meth c A args Q hE ret ls hl
  obtain ⟨hx, hb, hml, hown, hts, hnm, hA, hP, hD, hK, hN⟩ := hE
  have hS : va_S A s.heap s.heap [] := va_S.rf
  have hl : lv_has ls 2 [(0, .ref (e0))] := hl
  have hP : va_P g.1 vwCl [(e0, .inr (3, [.int (nI bi), .int (nI bo), .int (nI bw), .ref (al), .ref (ah), .ref (az), .ref (r0), .ref (s0), .ref (ac), .ref (h9)])), (al, aI g 48 lo), (az, aZ g 12 th)] s.heap := hP
  refine lv_iconst (v := nI 0) hx hb dX3_someMayBeBare_0 (by decide) ?_
  refine lv_istore_n (lv' := [(1, .int (nI 0)), (0, .ref (e0))]) hx hb dX3_someMayBeBare_1 rfl hl (by decide) rfl (fun ls hl => ?_)
  have lp_2 : ∀ (n : Nat) (k : Nat), bw - k < n → k ≤ bw → brB lo th bi bo 0 bw = brB lo th bi bo k (bw - k) → ∀ (H : Heap) (locs : List Loc), va_P g.1 vwCl [(e0, .inr (3, [.int (nI bi), .int (nI bo), .int (nI bw), .ref (al), .ref (ah), .ref (az), .ref (r0), .ref (s0), .ref (ac), .ref (h9)])), (al, aI g 48 lo), (az, aZ g 12 th)] H → va_D A [(e0, .inr (3, [.int (nI bi), .int (nI bo), .int (nI bw), .ref (al), .ref (ah), .ref (az), .ref (r0), .ref (s0), .ref (ac), .ref (h9)])), (al, aI g 48 lo), (az, aZ g 12 th)] → va_S A s.heap H locs → ∀ ls : Array Slot, lv_has ls 2 [(0, .ref (e0)), (1, .int (nI k))] → W p l e { frames := 1, cells := 0, slots := 0, locals := 24 } s m args below meth c H locs 0 0 Q (F0 m 2 ls []) := by
    intro n
    induction n with
    | zero =>
      intro k hms
      omega
    | succ n ih_2 =>
      intro k hms_2 hk hv H locs hP hD hS ls hl
      refine lv_iload_n hx hb dX3_someMayBeBare_2 rfl (lv_at hl 1 rfl) ?_
      refine lv_aload_n hx hb dX3_someMayBeBare_3 rfl (lv_at hl 0 rfl) ?_
      refine k_get hx hb hts hown hK hP iw_X3_someMayBeBare_X3 rfl 0 2 fm_X3_someMayBeBare_45 (by decide) rfl rfl dX3_someMayBeBare_4 ?_
      refine lv_icmp_ge (tgt := 67) hx hb dX3_someMayBeBare_7 (by decide) (fun c_1 => ?_) (fun c_1 => ?_)
      · skip
        have c_1 := (nI_leI (by omega) (by omega)).mp c_1
        refine lv_iconst (v := nI 0) hx hb dX3_someMayBeBare_67 (by decide) ?_
        exact ret dX3_someMayBeBare_68 () (by rw [hv, show bw - k = 0 by omega]; rfl) (by decide) hP hD hS
      · skip
        have c_1 := mt (nI_leI (by omega) (by omega)).mpr c_1
        refine lv_aload_n hx hb dX3_someMayBeBare_10 rfl (lv_at hl 0 rfl) ?_
        refine k_get hx hb hts hown hK hP iw_X3_someMayBeBare_X3 rfl 0 5 fm_X3_someMayBeBare_16 (by decide) rfl rfl dX3_someMayBeBare_11 ?_
        refine lv_iload_n hx hb dX3_someMayBeBare_14 rfl (lv_at hl 1 rfl) ?_
        refine k_zald hx hb hK hP 2 rfl (by omega) (by omega) dX3_someMayBeBare_15 ?_
        refine lv_if_eq (tgt := 61) hx hb dX3_someMayBeBare_16 (by decide) (fun c_2 => ?_) (fun c_2 => ?_)
        · skip
          have hv2 : brB lo th bi bo 0 bw = brB lo th bi bo (k + 1) (bw - (k + 1)) := by rw [hv, show bw - k = (bw - (k + 1)) + 1 by omega, brB, if_neg (fun z => z.1 c_2)]
          refine lv_iinc (v := nI (k + 1)) (lv' := [(1, .int (nI (k + 1))), (0, .ref (e0))]) hx hb dX3_someMayBeBare_61 hl (k := 1) rfl (nI_inc1 k) (by decide) rfl (fun ls hl => ?_)
          refine lv_goto (tgt := 2) hx hb dX3_someMayBeBare_64 (by decide) ?_
          exact ih_2 (k + 1) (by omega) (by omega) hv2 _ _ hP hD hS ls (lv_sub hl [1, 0] rfl)
        · skip
          have h1 := c_2
          refine lv_aload_n hx hb dX3_someMayBeBare_19 rfl (lv_at hl 0 rfl) ?_
          refine k_get hx hb hts hown hK hP iw_X3_someMayBeBare_X3 rfl 0 3 fm_X3_someMayBeBare_9 (by decide) rfl rfl dX3_someMayBeBare_20 ?_
          refine lv_iload_n hx hb dX3_someMayBeBare_23 rfl (lv_at hl 1 rfl) ?_
          refine lv_iconst (v := nI 0) hx hb dX3_someMayBeBare_24 (by decide) ?_
          refine lv_aload_n hx hb dX3_someMayBeBare_25 rfl (lv_at hl 0 rfl) ?_
          refine k_get hx hb hts hown hK hP iw_X3_someMayBeBare_X3 rfl 0 0 fm_X3_someMayBeBare_49 (by decide) rfl rfl dX3_someMayBeBare_26 ?_
          refine go_i (wc := [(al, aI g 48 lo)]) (wr := [(e0, .inr (3, [.int (nI bi), .int (nI bo), .int (nI bw), .ref (al), .ref (ah), .ref (az), .ref (r0), .ref (s0), .ref (ac), .ref (h9)])), (az, aZ g 12 th)]) hP hD hS hA [1] [0, 2] rfl rfl rfl rfl (by decide) (fun hPc hDc => rn_S (As := [.ref (al), .int (nI k), .int (nI 0), .int (nI bi)]) (rest := []) ⟨hx, hb, hml, hown, hts⟩ ((c_X3_areZero l g al lo k 0 bi (by omega) (by omega) (by omega)) _) (va_cwS 4 hts gX3_someMayBeBare_X3_areZero rfl rfl rfl (by decide +kernel) ⟨Nat.le_of_ble_eq_true rfl, Nat.le_of_ble_eq_true rfl⟩) hK hN hPc hDc rfl rfl hl.1 (Nat.le_of_ble_eq_true rfl) dX3_someMayBeBare_29 ⟨Nat.le_of_ble_eq_true rfl, Nat.le_of_ble_eq_true rfl⟩) ?_
          intro r_3 u_4 H locs h_5 hP hD hS
          have hP : va_P g.1 vwCl [(e0, .inr (3, [.int (nI bi), .int (nI bo), .int (nI bw), .ref (al), .ref (ah), .ref (az), .ref (r0), .ref (s0), .ref (ac), .ref (h9)])), (al, aI g 48 lo), (az, aZ g 12 th)] H := hP.sub [0, 2, 1] rfl
          have hD : va_D A [(e0, .inr (3, [.int (nI bi), .int (nI bo), .int (nI bw), .ref (al), .ref (ah), .ref (az), .ref (r0), .ref (s0), .ref (ac), .ref (h9)])), (al, aI g 48 lo), (az, aZ g 12 th)] := hD.sub [0, 2, 1] rfl rfl
          have h_5 : r_3 = bI (allZ lo (k * 4 + 0) (bi - 0)) := h_5
          subst h_5
          refine lv_if_ne (tgt := 59) hx hb dX3_someMayBeBare_32 (by decide) (fun c_6 => ?_) (fun c_6 => ?_)
          · skip
            have hres : brB lo th bi bo 0 bw = true := by rw [hv, show bw - k = (bw - (k + 1)) + 1 by omega, brB, if_pos ⟨h1, Or.inl (bI_ne0.mp c_6)⟩]
            refine lv_iconst (v := nI 1) hx hb dX3_someMayBeBare_59 (by decide) ?_
            exact ret dX3_someMayBeBare_60 () (by rw [hres]; rfl) (by decide) hP hD hS
          · skip
            have h2 := bI_eq0.mp c_6
            refine lv_aload_n hx hb dX3_someMayBeBare_35 rfl (lv_at hl 0 rfl) ?_
            refine k_get hx hb hts hown hK hP iw_X3_someMayBeBare_X3 rfl 0 3 fm_X3_someMayBeBare_9 (by decide) rfl rfl dX3_someMayBeBare_36 ?_
            refine lv_iload_n hx hb dX3_someMayBeBare_39 rfl (lv_at hl 1 rfl) ?_
            refine lv_aload_n hx hb dX3_someMayBeBare_40 rfl (lv_at hl 0 rfl) ?_
            refine k_get hx hb hts hown hK hP iw_X3_someMayBeBare_X3 rfl 0 0 fm_X3_someMayBeBare_49 (by decide) rfl rfl dX3_someMayBeBare_41 ?_
            refine lv_aload_n hx hb dX3_someMayBeBare_44 rfl (lv_at hl 0 rfl) ?_
            refine k_get hx hb hts hown hK hP iw_X3_someMayBeBare_X3 rfl 0 0 fm_X3_someMayBeBare_49 (by decide) rfl rfl dX3_someMayBeBare_45 ?_
            refine lv_aload_n hx hb dX3_someMayBeBare_48 rfl (lv_at hl 0 rfl) ?_
            refine k_get hx hb hts hown hK hP iw_X3_someMayBeBare_X3 rfl 0 1 fm_X3_someMayBeBare_52 (by decide) rfl rfl dX3_someMayBeBare_49 ?_
            refine lv_iadd hx hb dX3_someMayBeBare_52 ?_
            refine k_ei (y := nI (bi + bo)) (nI_add _ _) ?_
            refine go_i (wc := [(al, aI g 48 lo)]) (wr := [(e0, .inr (3, [.int (nI bi), .int (nI bo), .int (nI bw), .ref (al), .ref (ah), .ref (az), .ref (r0), .ref (s0), .ref (ac), .ref (h9)])), (az, aZ g 12 th)]) hP hD hS hA [1] [0, 2] rfl rfl rfl rfl (by decide) (fun hPc hDc => rn_S (As := [.ref (al), .int (nI k), .int (nI bi), .int (nI (bi + bo))]) (rest := []) ⟨hx, hb, hml, hown, hts⟩ ((c_X3_areZero l g al lo k bi (bi + bo) (by omega) (by omega) (by omega)) _) (va_cwS 4 hts gX3_someMayBeBare_X3_areZero rfl rfl rfl (by decide +kernel) ⟨Nat.le_of_ble_eq_true rfl, Nat.le_of_ble_eq_true rfl⟩) hK hN hPc hDc rfl rfl hl.1 (Nat.le_of_ble_eq_true rfl) dX3_someMayBeBare_53 ⟨Nat.le_of_ble_eq_true rfl, Nat.le_of_ble_eq_true rfl⟩) ?_
            intro r_7 u_8 H locs h_9 hP hD hS
            have hP : va_P g.1 vwCl [(e0, .inr (3, [.int (nI bi), .int (nI bo), .int (nI bw), .ref (al), .ref (ah), .ref (az), .ref (r0), .ref (s0), .ref (ac), .ref (h9)])), (al, aI g 48 lo), (az, aZ g 12 th)] H := hP.sub [0, 2, 1] rfl
            have hD : va_D A [(e0, .inr (3, [.int (nI bi), .int (nI bo), .int (nI bw), .ref (al), .ref (ah), .ref (az), .ref (r0), .ref (s0), .ref (ac), .ref (h9)])), (al, aI g 48 lo), (az, aZ g 12 th)] := hD.sub [0, 2, 1] rfl rfl
            have h_9 : r_7 = bI (allZ lo (k * 4 + bi) ((bi + bo) - bi)) := h_9
            subst h_9
            refine lv_if_eq (tgt := 61) hx hb dX3_someMayBeBare_56 (by decide) (fun c_10 => ?_) (fun c_10 => ?_)
            · skip
              have hv2 : brB lo th bi bo 0 bw = brB lo th bi bo (k + 1) (bw - (k + 1)) := by rw [hv, show bw - k = (bw - (k + 1)) + 1 by omega, brB, if_neg (fun z => z.2.elim (fun y => absurd h2 (by rw [y]; decide)) (fun y => absurd (bI_eq0.mp c_10) (by rw [y]; decide)))]
              refine lv_iinc (v := nI (k + 1)) (lv' := [(1, .int (nI (k + 1))), (0, .ref (e0))]) hx hb dX3_someMayBeBare_61 hl (k := 1) rfl (nI_inc1 k) (by decide) rfl (fun ls hl => ?_)
              refine lv_goto (tgt := 2) hx hb dX3_someMayBeBare_64 (by decide) ?_
              exact ih_2 (k + 1) (by omega) (by omega) hv2 _ _ hP hD hS ls (lv_sub hl [1, 0] rfl)
            · skip
              have hres : brB lo th bi bo 0 bw = true := by rw [hv, show bw - k = (bw - (k + 1)) + 1 by omega, brB, if_pos ⟨h1, Or.inr (bI_ne0.mp c_10)⟩]
              refine lv_iconst (v := nI 1) hx hb dX3_someMayBeBare_59 (by decide) ?_
              exact ret dX3_someMayBeBare_60 () (by rw [hres]; rfl) (by decide) hP hD hS
  exact lp_2 (bw - 0 + 1) 0 (by omega) (by omega) rfl _ _ hP hD hS ls (lv_sub hl [1, 0] rfl)
set_option maxHeartbeats 4000000 in
set_option maxRecDepth 100000 in
theorem c_X3_hasSides (l : Launch) (g : Gt) (e0 : Nat) (bi : Nat) (bo : Nat) (bw : Nat) (al : Nat) (ah : Nat) (az : Nat) (r0 : Nat) (s0 : Nat) (ac : Nat) (h9 : Nat) (th : Nat → Int32) (x : Int32) (hbw : bw ≤ 12) : CI l yX3_hasSides wsX3_hasSides { frames := 1, cells := 0, slots := 0, locals := 22 } g [.ref (e0), .int (x)] [(e0, .inr (3, [.int (nI bi), .int (nI bo), .int (nI bw), .ref (al), .ref (ah), .ref (az), .ref (r0), .ref (s0), .ref (ac), .ref (h9)])), (az, aZ g 12 th)] (fun zr (zu : Unit) => zr = bI (hsB x (cntT th 0 bw))) (fun (zu : Unit) => [(e0, .inr (3, [.int (nI bi), .int (nI bo), .int (nI bw), .ref (al), .ref (ah), .ref (az), .ref (r0), .ref (s0), .ref (ac), .ref (h9)])), (az, aZ g 12 th)]) 0 0 := by
  refine ent_z (cc := cX3_hasSides) (maxL := 2) (by decide) rfl (Nat.le_of_ble_eq_true rfl) ?_
  intro p e s m below meth c A args Q hE ret ls hl
  obtain ⟨hx, hb, hml, hown, hts, hnm, hA, hP, hD, hK, hN⟩ := hE
  have hS : va_S A s.heap s.heap [] := va_S.rf
  have hl : lv_has ls 2 [(0, .ref (e0)), (1, .int (x))] := hl
  have hP : va_P g.1 vwCl [(e0, .inr (3, [.int (nI bi), .int (nI bo), .int (nI bw), .ref (al), .ref (ah), .ref (az), .ref (r0), .ref (s0), .ref (ac), .ref (h9)])), (az, aZ g 12 th)] s.heap := hP
  refine lv_iload_n hx hb dX3_hasSides_0 rfl (lv_at hl 1 rfl) ?_
  refine go_i (wc := []) (wr := [(e0, .inr (3, [.int (nI bi), .int (nI bo), .int (nI bw), .ref (al), .ref (ah), .ref (az), .ref (r0), .ref (s0), .ref (ac), .ref (h9)])), (az, aZ g 12 th)]) hP hD hS hA [] [0, 1] rfl rfl rfl rfl (by decide) (fun hPc hDc => rn_S (As := [.int (x)]) (rest := []) ⟨hx, hb, hml, hown, hts⟩ ((c_X3_isView l g x ) _) (va_cwS 1 hts gX3_hasSides_X3_isView rfl rfl rfl (by decide +kernel) ⟨Nat.le_of_ble_eq_true rfl, Nat.le_of_ble_eq_true rfl⟩) hK hN hPc hDc rfl rfl hl.1 (Nat.le_of_ble_eq_true rfl) dX3_hasSides_1 ⟨Nat.le_of_ble_eq_true rfl, Nat.le_of_ble_eq_true rfl⟩) ?_
  intro r_1 u_2 H locs h_3 hP hD hS
  have hP : va_P g.1 vwCl [(e0, .inr (3, [.int (nI bi), .int (nI bo), .int (nI bw), .ref (al), .ref (ah), .ref (az), .ref (r0), .ref (s0), .ref (ac), .ref (h9)])), (az, aZ g 12 th)] H := hP.sub [0, 1] rfl
  have hD : va_D A [(e0, .inr (3, [.int (nI bi), .int (nI bo), .int (nI bw), .ref (al), .ref (ah), .ref (az), .ref (r0), .ref (s0), .ref (ac), .ref (h9)])), (az, aZ g 12 th)] := hD.sub [0, 1] rfl rfl
  have h_3 : r_1 = bI (isVw x) := h_3
  subst h_3
  refine lv_if_eq (tgt := 23) hx hb dX3_hasSides_4 (by decide) (fun c_4 => ?_) (fun c_4 => ?_)
  · skip
    have hres : hsB x (cntT th 0 bw) = false := decide_eq_false (fun z => absurd (bI_eq0.mp c_4) (by rw [show isVw x = true from decide_eq_true (by omega)]; decide))
    refine lv_iconst (v := nI 0) hx hb dX3_hasSides_23 (by decide) ?_
    exact ret dX3_hasSides_24 () (by rw [hres]; rfl) (by decide) hP hD hS
  · skip
    have hvw := of_decide_eq_true (bI_ne0.mp c_4)
    have hcl := cntT_le th bw 0
    refine lv_iload_n hx hb dX3_hasSides_7 rfl (lv_at hl 1 rfl) ?_
    refine lv_iconst (v := nI 3) hx hb dX3_hasSides_8 (by decide) ?_
    refine lv_icmp_eq (tgt := 23) hx hb dX3_hasSides_9 (by decide) (fun c_5 => ?_) (fun c_5 => ?_)
    · skip
      have hres : hsB x (cntT th 0 bw) = false := decide_eq_false (fun z => by rw [i32_eN (by decide)] at c_5; omega)
      refine lv_iconst (v := nI 0) hx hb dX3_hasSides_23 (by decide) ?_
      exact ret dX3_hasSides_24 () (by rw [hres]; rfl) (by decide) hP hD hS
    · skip
      have h3 := c_5
      rw [i32_eN (by decide)] at h3
      refine lv_aload_n hx hb dX3_hasSides_12 rfl (lv_at hl 0 rfl) ?_
      refine go_i (wc := [(e0, .inr (3, [.int (nI bi), .int (nI bo), .int (nI bw), .ref (al), .ref (ah), .ref (az), .ref (r0), .ref (s0), .ref (ac), .ref (h9)])), (az, aZ g 12 th)]) (wr := []) hP hD hS hA [0, 1] [] rfl rfl rfl rfl (by decide) (fun hPc hDc => rn_V (As := []) (rest := []) ⟨hx, hb, hml, hown, hts⟩ ((c_X3_worksThere l g e0 bi bo bw al ah az r0 s0 ac h9 th (by omega)) _) (cwV 0 hts gX3_hasSides_X3_worksThere rfl rfl rfl (by decide +kernel) ⟨Nat.le_of_ble_eq_true rfl, Nat.le_of_ble_eq_true rfl⟩) hK hN hPc hDc 0 rfl rfl rfl rfl hl.1 (Nat.le_of_ble_eq_true rfl) dX3_hasSides_13 ⟨Nat.le_of_ble_eq_true rfl, Nat.le_of_ble_eq_true rfl⟩) ?_
      intro r_6 u_7 H locs h_8 hP hD hS
      have hP : va_P g.1 vwCl [(e0, .inr (3, [.int (nI bi), .int (nI bo), .int (nI bw), .ref (al), .ref (ah), .ref (az), .ref (r0), .ref (s0), .ref (ac), .ref (h9)])), (az, aZ g 12 th)] H := hP.sub [0, 1] rfl
      have hD : va_D A [(e0, .inr (3, [.int (nI bi), .int (nI bo), .int (nI bw), .ref (al), .ref (ah), .ref (az), .ref (r0), .ref (s0), .ref (ac), .ref (h9)])), (az, aZ g 12 th)] := hD.sub [0, 1] rfl rfl
      have h_8 : r_6 = nI (cntT th 0 bw) := h_8
      subst h_8
      refine lv_if_le (tgt := 23) hx hb dX3_hasSides_16 (by decide) (fun c_9 => ?_) (fun c_9 => ?_)
      · skip
        have c_9 := (nI_le0 (by omega)).mp c_9
        have hres : hsB x (cntT th 0 bw) = false := decide_eq_false (fun z => by omega)
        refine lv_iconst (v := nI 0) hx hb dX3_hasSides_23 (by decide) ?_
        exact ret dX3_hasSides_24 () (by rw [hres]; rfl) (by decide) hP hD hS
      · skip
        have c_9 := mt (nI_le0 (by omega)).mpr c_9
        have hres : hsB x (cntT th 0 bw) = true := decide_eq_true (by omega)
        refine lv_iconst (v := nI 1) hx hb dX3_hasSides_19 (by decide) ?_
        refine lv_goto (tgt := 24) hx hb dX3_hasSides_20 (by decide) ?_
        exact ret dX3_hasSides_24 () (by rw [hres]; rfl) (by decide) hP hD hS
theorem iw_X3_partOf_X1 : ∀ w ∈ wsX10, w ∈ wsX3_partOf := by decide +kernel
set_option maxHeartbeats 4000000 in
set_option maxRecDepth 100000 in
theorem c_X3_partOf (l : Launch) (g : Gt) (f0 : Nat) (x0 : Int64) (x1 : Int64) (wh : Int32) : CL l yX3_partOf wsX3_partOf { frames := 1, cells := 0, slots := 0, locals := 20 } g [.ref (f0), .int (wh)] [(f0, .inr (1, [.long (x0), .long (x1)]))] (fun zr (zu : Unit) => zr = ptV x0 x1 wh) (fun (zu : Unit) => [(f0, .inr (1, [.long (x0), .long (x1)]))]) 0 0 := by
  refine ent_l (cc := cX3_partOf) (maxL := 2) (by decide) rfl (Nat.le_of_ble_eq_true rfl) ?_
  intro p e s m below meth c A args Q hE ret ls hl
  obtain ⟨hx, hb, hml, hown, hts, hnm, hA, hP, hD, hK, hN⟩ := hE
  have hS : va_S A s.heap s.heap [] := va_S.rf
  have hl : lv_has ls 2 [(0, .ref (f0)), (1, .int (wh))] := hl
  have hP : va_P g.1 vwCl [(f0, .inr (1, [.long (x0), .long (x1)]))] s.heap := hP
  refine lv_aload_n hx hb dX3_partOf_0 rfl (lv_at hl 0 rfl) ?_
  refine go_i (wc := [(f0, .inr (1, [.long (x0), .long (x1)]))]) (wr := []) hP hD hS hA [0] [] rfl rfl rfl rfl (by decide) (fun hPc hDc => rn_VN (As := []) (rest := []) ⟨hx, hb, hml, hown, hts⟩ ((c_X1_isNone l g f0 x0 x1 ) _) (⟨va_cnB 0 hts gX3_partOf_X1_isNone_n184 rfl rfl rfl (hN.2 _ (List.mem_of_getElem? (i := 14) rfl)) (hts _ (by decide +kernel)) (by decide +kernel) ⟨Nat.le_of_ble_eq_true rfl, Nat.le_of_ble_eq_true rfl⟩, hts _ (by decide +kernel), hts _ (by decide +kernel)⟩) hK hN hPc hDc 0 rfl rfl rfl rfl hl.1 (Nat.le_of_ble_eq_true rfl) dX3_partOf_1 ⟨Nat.le_of_ble_eq_true rfl, Nat.le_of_ble_eq_true rfl⟩) ?_
  intro r_1 u_2 H locs h_3 hP hD hS
  have hP : va_P g.1 vwCl [(f0, .inr (1, [.long (x0), .long (x1)]))] H := hP.sub [0] rfl
  have hD : va_D A [(f0, .inr (1, [.long (x0), .long (x1)]))] := hD.sub [0] rfl rfl
  have h_3 : r_1 = bI (decide (x1 = 0)) := h_3
  subst h_3
  refine lv_if_eq (tgt := 11) hx hb dX3_partOf_4 (by decide) (fun c_4 => ?_) (fun c_4 => ?_)
  · skip
    have h0 : ¬ x1 = 0 := of_decide_eq_false (bI_eq0.mp c_4)
    refine lv_iload_n hx hb dX3_partOf_11 rfl (lv_at hl 1 rfl) ?_
    refine lv_if_ne (tgt := 20) hx hb dX3_partOf_12 (by decide) (fun c_5 => ?_) (fun c_5 => ?_)
    · skip
      have h1 := c_5
      refine lv_iload_n hx hb dX3_partOf_20 rfl (lv_at hl 1 rfl) ?_
      refine lv_iconst (v := nI 1) hx hb dX3_partOf_21 (by decide) ?_
      refine lv_icmp_ne (tgt := 32) hx hb dX3_partOf_22 (by decide) (fun c_6 => ?_) (fun c_6 => ?_)
      · skip
        have hres : ptV x0 x1 wh = -1 := by rw [ptV, if_neg h0, if_neg h1, if_neg c_6]
        refine lv_ldc2 (v := -1) hx hb hown (hts _ (by decide +kernel)) dX3_partOf_32 ?_
        exact ret dX3_partOf_35 () (hres.symm) hP hD hS
      · skip
        have hres : ptV x0 x1 wh = x1 := by rw [ptV, if_neg h0, if_neg h1, if_pos c_6]
        refine lv_aload_n hx hb dX3_partOf_25 rfl (lv_at hl 0 rfl) ?_
        refine k_getN hx hb hts hown hK hN hP iw_X3_partOf_X1 rfl 0 1 (List.mem_of_getElem? (i := 12) rfl) (by decide) rfl rfl dX3_partOf_26 ?_
        refine lv_goto (tgt := 35) hx hb dX3_partOf_29 (by decide) ?_
        exact ret dX3_partOf_35 () (hres.symm) hP hD hS
    · skip
      have h1 := c_5
      refine lv_aload_n hx hb dX3_partOf_15 rfl (lv_at hl 0 rfl) ?_
      refine k_getN hx hb hts hown hK hN hP iw_X3_partOf_X1 rfl 0 0 (List.mem_of_getElem? (i := 10) rfl) (by decide) rfl rfl dX3_partOf_16 ?_
      exact ret dX3_partOf_19 () (by rw [ptV, if_neg h0, if_pos h1]) hP hD hS
  · skip
    have h0 : x1 = 0 := of_decide_eq_true (bI_ne0.mp c_4)
    refine lv_ldc2 (v := -1) hx hb hown (hts _ (by decide +kernel)) dX3_partOf_7 ?_
    exact ret dX3_partOf_10 () (by rw [ptV, if_pos h0]) hP hD hS
set_option maxHeartbeats 4000000 in
set_option maxRecDepth 100000 in
theorem c_X3_pick (l : Launch) (g : Gt) (k : Nat) (x1 : Int32) (x2 : Int32) (x3 : Int32) (x4 : Int32) (hk : k < 4) : CI l yX3_pick wsX3_pick { frames := 0, cells := 0, slots := 0, locals := 0 } g [.int (nI k), .int (x1), .int (x2), .int (x3), .int (x4)] [] (fun zr (zu : Unit) => zr = pk4 k x1 x2 x3 x4) (fun (zu : Unit) => []) 0 0 := by
  refine ent_i (cc := cX3_pick) (maxL := 5) (by decide) rfl (Nat.le_of_ble_eq_true rfl) ?_
  intro p e s m below meth c A args Q hE ret ls hl
  obtain ⟨hx, hb, hml, hown, hts, hnm, hA, hP, hD, hK, hN⟩ := hE
  have hS : va_S A s.heap s.heap [] := va_S.rf
  have hl : lv_has ls 5 [(0, .int (nI k)), (1, .int (x1)), (2, .int (x2)), (3, .int (x3)), (4, .int (x4))] := hl
  have hP : va_P g.1 vwCl [] s.heap := hP
  refine lv_iload_n hx hb dX3_pick_0 rfl (lv_at hl 0 rfl) ?_
  refine lv_iconst (v := nI 2) hx hb dX3_pick_1 (by decide) ?_
  refine lv_icmp_ge (tgt := 15) hx hb dX3_pick_2 (by decide) (fun c_1 => ?_) (fun c_1 => ?_)
  · skip
    have c_1 := (nI_leI (by omega) (by omega)).mp c_1
    have h2 : ¬ k < 2 := by omega
    refine lv_iload_n hx hb dX3_pick_15 rfl (lv_at hl 0 rfl) ?_
    refine lv_iconst (v := nI 2) hx hb dX3_pick_16 (by decide) ?_
    refine lv_icmp_ne (tgt := 24) hx hb dX3_pick_17 (by decide) (fun c_2 => ?_) (fun c_2 => ?_)
    · skip
      have c_2 := mt (nI_eq (by omega) (by omega)).mpr c_2
      have hres : pk4 k x1 x2 x3 x4 = x4 := by rw [pk4, if_neg h2, if_neg c_2]
      refine lv_iload hx hb dX3_pick_24 (lv_at hl 4 rfl) ?_
      exact ret dX3_pick_26 () (hres.symm) hP hD hS
    · skip
      have c_2 := (nI_eq (by omega) (by omega)).mp c_2
      have hres : pk4 k x1 x2 x3 x4 = x3 := by rw [pk4, if_neg h2, if_pos c_2]
      refine lv_iload_n hx hb dX3_pick_20 rfl (lv_at hl 3 rfl) ?_
      refine lv_goto (tgt := 26) hx hb dX3_pick_21 (by decide) ?_
      exact ret dX3_pick_26 () (hres.symm) hP hD hS
  · skip
    have c_1 := mt (nI_leI (by omega) (by omega)).mpr c_1
    have h2 : k < 2 := by omega
    refine lv_iload_n hx hb dX3_pick_5 rfl (lv_at hl 0 rfl) ?_
    refine lv_if_ne (tgt := 13) hx hb dX3_pick_6 (by decide) (fun c_3 => ?_) (fun c_3 => ?_)
    · skip
      have c_3 := mt (nI_eq0 (by omega)).mpr c_3
      have hres : pk4 k x1 x2 x3 x4 = x2 := by rw [pk4, if_pos h2, if_neg c_3]
      refine lv_iload_n hx hb dX3_pick_13 rfl (lv_at hl 2 rfl) ?_
      exact ret dX3_pick_14 () (hres.symm) hP hD hS
    · skip
      have c_3 := (nI_eq0 (by omega)).mp c_3
      have hres : pk4 k x1 x2 x3 x4 = x1 := by rw [pk4, if_pos h2, if_pos c_3]
      refine lv_iload_n hx hb dX3_pick_9 rfl (lv_at hl 1 rfl) ?_
      refine lv_goto (tgt := 14) hx hb dX3_pick_10 (by decide) ?_
      exact ret dX3_pick_14 () (hres.symm) hP hD hS
