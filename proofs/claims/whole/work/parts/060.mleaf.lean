/-! THE REFERENCE: what its methods compute, over the machine's own numbers -/
def isI (x a b : Int32) : Bool := decide (a ≤ x ∧ x ≤ b)
def smN (nu : Nat → Int32) (p : Nat) : Nat → Int32
  | 0 => nI 0
  | n + 1 => smN nu p n + nu (p + n)
def abM (x : Int64) : Int64 := if 0 < x then x else -x
theorem i64_abs_rem {x y : Int64} (h : ¬ y = 0) : (x - x / y * y).toInt.natAbs < y.toInt.natAbs := by
  have hy : y.toInt ≠ 0 := fun q => h (Int64.toInt_inj.mp (by rw [q]; rfl))
  have e : (x - x / y * y).toInt = (x.toInt.tmod y.toInt) := by
    have hx1 := Int64.le_toInt x
    have hx2 := Int64.toInt_lt x
    have hy1 := Int64.le_toInt y
    have hy2 := Int64.toInt_lt y
    rw [Int64.toInt_sub, Int64.toInt_mul, Int64.toInt_div]
    have hm : x.toInt.tmod y.toInt = x.toInt - (x.toInt.tdiv y.toInt) * y.toInt := by
      have := Int.tmod_add_tdiv_mul x.toInt y.toInt
      omega
    have hb : (x.toInt.tmod y.toInt).natAbs < y.toInt.natAbs := by
      rw [Int.natAbs_tmod]
      exact Nat.mod_lt _ (by omega)
    rw [hm] at hb ⊢
    rw [Int.bmod_mul_bmod, Int.sub_bmod_bmod]
    apply Int.bmod_eq_of_le <;> omega
  rw [e, Int.natAbs_tmod]
  exact Nat.mod_lt _ (by omega)
/-- Euclid, as the reference has it -/
def cmW (x y : Int64) : Int64 := if h : y = 0 then x else cmW y (x - x / y * y)
termination_by y.toInt.natAbs
decreasing_by exact i64_abs_rem h
def cmD (a b : Int64) : Int64 := cmW (abM a) (abM b)
/-- what a side has at place k, by the way and its sign -/
def tdV (wy : Nat → Int64) (wd k t : Nat) (sg : Int32) : Int64 := if k < t then sg.toInt64 * wy k else if k = 4 ∧ t < wd then sg.toInt64 * wy t else 0
def alkB (nu : Nat → Int32) (a b k : Nat) : Nat → Bool → Bool
  | 0, q => q
  | n + 1, q => alkB nu a b (k + 1) n (q && decide (nu (a * 4 + k) = nu (b * 4 + k)))
theorem iw_X4_things_X4 : ∀ w ∈ wsX40, w ∈ wsX4_things := fun w h => List.mem_cons_of_mem _ (List.mem_append_right _ h)
theorem fm_X4_things_9 : Cond.fieldLink RX4 9 "EdgeBenchModel" "ins" "I" ∈ wsX4_things := List.mem_of_getElem? (i := 1) rfl
theorem fm_X4_things_13 : Cond.fieldLink RX4 13 "EdgeBenchModel" "outs" "I" ∈ wsX4_things := List.mem_of_getElem? (i := 2) rfl
set_option maxHeartbeats 20000000 in
set_option maxRecDepth 100000 in
theorem c_X4_things (l : Launch) (g : Gt) (md : Nat → Nat) (xt : Int32) (mi : Nat) (mo : Nat) (mw : Nat) (ni : Nat) (no : Nat) (ns : Nat) (nb : Nat) (wd : Nat) (tp : Int64) (bl : Int64) (wt : Int64) (wb : Int64) : CI l yX4_things wsX4_things { frames := 0, cells := 0, slots := 0, locals := 0 } g [.ref (md 0)] [(md 0, .inr (4, [.int (xt), .int (nI mi), .int (nI mo), .int (nI mw), .ref (md 1), .ref (md 2), .ref (md 3), .int (nI ni), .int (nI no), .ref (md 4), .ref (md 5), .ref (md 6), .int (nI ns), .ref (md 7), .ref (md 8), .int (nI nb), .int (nI wd), .ref (md 9), .long (tp), .long (bl), .long (wt), .long (wb)]))] (fun zr (zu : Unit) => zr = nI (mi + mo)) (fun (zu : Unit) => [(md 0, .inr (4, [.int (xt), .int (nI mi), .int (nI mo), .int (nI mw), .ref (md 1), .ref (md 2), .ref (md 3), .int (nI ni), .int (nI no), .ref (md 4), .ref (md 5), .ref (md 6), .int (nI ns), .ref (md 7), .ref (md 8), .int (nI nb), .int (nI wd), .ref (md 9), .long (tp), .long (bl), .long (wt), .long (wb)]))]) 0 0 := by
  refine ent_i (cc := cX4_things) (maxL := 1) (by decide) rfl (Nat.le_of_ble_eq_true rfl) ?_
  intro p e s m below meth c A args Q hE ret ls hl
  obtain ⟨hx, hb, hml, hown, hts, hnm, hA, hP, hD, hK, hN⟩ := hE
  have hS : va_S A s.heap s.heap [] := va_S.rf
  have hl : lv_has ls 1 [(0, .ref (md 0))] := hl
  have hP : va_P g.1 vwCl [(md 0, .inr (4, [.int (xt), .int (nI mi), .int (nI mo), .int (nI mw), .ref (md 1), .ref (md 2), .ref (md 3), .int (nI ni), .int (nI no), .ref (md 4), .ref (md 5), .ref (md 6), .int (nI ns), .ref (md 7), .ref (md 8), .int (nI nb), .int (nI wd), .ref (md 9), .long (tp), .long (bl), .long (wt), .long (wb)]))] s.heap := hP
  refine lv_aload_n hx hb dX4_things_0 rfl (lv_at hl 0 rfl) ?_
  refine k_get hx hb hts hown hK hP iw_X4_things_X4 rfl 0 1 fm_X4_things_9 (by decide) rfl rfl dX4_things_1 ?_
  refine lv_aload_n hx hb dX4_things_4 rfl (lv_at hl 0 rfl) ?_
  refine k_get hx hb hts hown hK hP iw_X4_things_X4 rfl 0 2 fm_X4_things_13 (by decide) rfl rfl dX4_things_5 ?_
  refine lv_iadd hx hb dX4_things_8 ?_
  refine k_ei (y := nI (mi + mo)) (nI_add _ _) ?_
  exact ret dX4_things_9 () (rfl) hP hD hS
theorem iw_X4_isWork_X4 : ∀ w ∈ wsX40, w ∈ wsX4_isWork := fun w h => List.mem_cons_of_mem _ (List.mem_append_right _ h)
theorem fm_X4_isWork_49 : Cond.fieldLink RX4 49 "EdgeBenchModel" "works" "I" ∈ wsX4_isWork := List.mem_of_getElem? (i := 1) rfl
set_option maxHeartbeats 20000000 in
set_option maxRecDepth 100000 in
theorem c_X4_isWork (l : Launch) (g : Gt) (md : Nat → Nat) (xt : Int32) (mi : Nat) (mo : Nat) (mw : Nat) (ni : Nat) (no : Nat) (ns : Nat) (nb : Nat) (wd : Nat) (tp : Int64) (bl : Int64) (wt : Int64) (wb : Int64) (x : Int32) (hmw : mw ≤ 12) : CI l yX4_isWork wsX4_isWork { frames := 0, cells := 0, slots := 0, locals := 0 } g [.ref (md 0), .int (x)] [(md 0, .inr (4, [.int (xt), .int (nI mi), .int (nI mo), .int (nI mw), .ref (md 1), .ref (md 2), .ref (md 3), .int (nI ni), .int (nI no), .ref (md 4), .ref (md 5), .ref (md 6), .int (nI ns), .ref (md 7), .ref (md 8), .int (nI nb), .int (nI wd), .ref (md 9), .long (tp), .long (bl), .long (wt), .long (wb)]))] (fun zr (zu : Unit) => zr = bI (inR x mw)) (fun (zu : Unit) => [(md 0, .inr (4, [.int (xt), .int (nI mi), .int (nI mo), .int (nI mw), .ref (md 1), .ref (md 2), .ref (md 3), .int (nI ni), .int (nI no), .ref (md 4), .ref (md 5), .ref (md 6), .int (nI ns), .ref (md 7), .ref (md 8), .int (nI nb), .int (nI wd), .ref (md 9), .long (tp), .long (bl), .long (wt), .long (wb)]))]) 0 0 := by
  refine ent_z (cc := cX4_isWork) (maxL := 2) (by decide) rfl (Nat.le_of_ble_eq_true rfl) ?_
  intro p e s m below meth c A args Q hE ret ls hl
  obtain ⟨hx, hb, hml, hown, hts, hnm, hA, hP, hD, hK, hN⟩ := hE
  have hS : va_S A s.heap s.heap [] := va_S.rf
  have hl : lv_has ls 2 [(0, .ref (md 0)), (1, .int (x))] := hl
  have hP : va_P g.1 vwCl [(md 0, .inr (4, [.int (xt), .int (nI mi), .int (nI mo), .int (nI mw), .ref (md 1), .ref (md 2), .ref (md 3), .int (nI ni), .int (nI no), .ref (md 4), .ref (md 5), .ref (md 6), .int (nI ns), .ref (md 7), .ref (md 8), .int (nI nb), .int (nI wd), .ref (md 9), .long (tp), .long (bl), .long (wt), .long (wb)]))] s.heap := hP
  refine lv_iload_n hx hb dX4_isWork_0 rfl (lv_at hl 1 rfl) ?_
  refine lv_if_lt (tgt := 16) hx hb dX4_isWork_1 (by decide) (fun c_1 => ?_) (fun c_1 => ?_)
  · skip
    have hres : inR x mw = false := decide_eq_false (by rw [i32_l0] at c_1; omega)
    refine lv_iconst (v := nI 0) hx hb dX4_isWork_16 (by decide) ?_
    exact ret dX4_isWork_17 () (by rw [hres]; rfl) (by decide) hP hD hS
  · skip
    have h0 := c_1
    rw [i32_l0] at h0
    refine lv_iload_n hx hb dX4_isWork_4 rfl (lv_at hl 1 rfl) ?_
    refine lv_aload_n hx hb dX4_isWork_5 rfl (lv_at hl 0 rfl) ?_
    refine k_get hx hb hts hown hK hP iw_X4_isWork_X4 rfl 0 3 fm_X4_isWork_49 (by decide) rfl rfl dX4_isWork_6 ?_
    refine lv_icmp_ge (tgt := 16) hx hb dX4_isWork_9 (by decide) (fun c_2 => ?_) (fun c_2 => ?_)
    · skip
      have hres : inR x mw = false := decide_eq_false (by rw [i32_geN (by omega)] at c_2; omega)
      refine lv_iconst (v := nI 0) hx hb dX4_isWork_16 (by decide) ?_
      exact ret dX4_isWork_17 () (by rw [hres]; rfl) (by decide) hP hD hS
    · skip
      have hres : inR x mw = true := decide_eq_true (by rw [i32_geN (by omega)] at c_2; omega)
      refine lv_iconst (v := nI 1) hx hb dX4_isWork_12 (by decide) ?_
      refine lv_goto (tgt := 17) hx hb dX4_isWork_13 (by decide) ?_
      exact ret dX4_isWork_17 () (by rw [hres]; rfl) (by decide) hP hD hS
set_option maxHeartbeats 20000000 in
set_option maxRecDepth 100000 in
theorem c_X4_isIn (l : Launch) (g : Gt) (x : Int32) (ya : Int32) (yb : Int32) : CI l yX4_isIn wsX4_isIn { frames := 0, cells := 0, slots := 0, locals := 0 } g [.int (x), .int (ya), .int (yb)] [] (fun zr (zu : Unit) => zr = bI (isI x ya yb)) (fun (zu : Unit) => []) 0 0 := by
  refine ent_z (cc := cX4_isIn) (maxL := 3) (by decide) rfl (Nat.le_of_ble_eq_true rfl) ?_
  intro p e s m below meth c A args Q hE ret ls hl
  obtain ⟨hx, hb, hml, hown, hts, hnm, hA, hP, hD, hK, hN⟩ := hE
  have hS : va_S A s.heap s.heap [] := va_S.rf
  have hl : lv_has ls 3 [(0, .int (x)), (1, .int (ya)), (2, .int (yb))] := hl
  have hP : va_P g.1 vwCl [] s.heap := hP
  refine lv_iload_n hx hb dX4_isIn_0 rfl (lv_at hl 0 rfl) ?_
  refine lv_iload_n hx hb dX4_isIn_1 rfl (lv_at hl 1 rfl) ?_
  refine lv_icmp_lt (tgt := 14) hx hb dX4_isIn_2 (by decide) (fun c_1 => ?_) (fun c_1 => ?_)
  · skip
    have hres : isI x ya yb = false := decide_eq_false (fun q => by have q := q.1; rw [i32_le] at q; rw [i32_lt] at c_1; omega)
    refine lv_iconst (v := nI 0) hx hb dX4_isIn_14 (by decide) ?_
    exact ret dX4_isIn_15 () (by rw [hres]; rfl) (by decide) hP hD hS
  · skip
    have h0 := c_1
    refine lv_iload_n hx hb dX4_isIn_5 rfl (lv_at hl 0 rfl) ?_
    refine lv_iload_n hx hb dX4_isIn_6 rfl (lv_at hl 2 rfl) ?_
    refine lv_icmp_gt (tgt := 14) hx hb dX4_isIn_7 (by decide) (fun c_2 => ?_) (fun c_2 => ?_)
    · skip
      have hres : isI x ya yb = false := decide_eq_false (fun q => by have q := q.2; rw [i32_le] at q; rw [i32_lt] at c_2; omega)
      refine lv_iconst (v := nI 0) hx hb dX4_isIn_14 (by decide) ?_
      exact ret dX4_isIn_15 () (by rw [hres]; rfl) (by decide) hP hD hS
    · skip
      have hres : isI x ya yb = true := decide_eq_true ⟨by rw [i32_le]; rw [i32_lt] at h0; omega, by rw [i32_le]; rw [i32_lt] at c_2; omega⟩
      refine lv_iconst (v := nI 1) hx hb dX4_isIn_10 (by decide) ?_
      refine lv_goto (tgt := 15) hx hb dX4_isIn_11 (by decide) ?_
      exact ret dX4_isIn_15 () (by rw [hres]; rfl) (by decide) hP hD hS
theorem iw_X4_plain_X4 : ∀ w ∈ wsX40, w ∈ wsX4_plain := fun w h => List.mem_cons_of_mem _ (List.mem_append_right _ h)
theorem fm_X4_plain_9 : Cond.fieldLink RX4 9 "EdgeBenchModel" "ins" "I" ∈ wsX4_plain := List.mem_of_getElem? (i := 1) rfl
theorem fm_X4_plain_64 : Cond.fieldLink RX4 64 "EdgeBenchModel" "nIn" "I" ∈ wsX4_plain := List.mem_of_getElem? (i := 2) rfl
theorem fm_X4_plain_13 : Cond.fieldLink RX4 13 "EdgeBenchModel" "outs" "I" ∈ wsX4_plain := List.mem_of_getElem? (i := 3) rfl
theorem fm_X4_plain_67 : Cond.fieldLink RX4 67 "EdgeBenchModel" "nOut" "I" ∈ wsX4_plain := List.mem_of_getElem? (i := 4) rfl
theorem fm_X4_plain_49 : Cond.fieldLink RX4 49 "EdgeBenchModel" "works" "I" ∈ wsX4_plain := List.mem_of_getElem? (i := 5) rfl
theorem fm_X4_plain_30 : Cond.fieldLink RX4 30 "EdgeBenchModel" "among" "[Z" ∈ wsX4_plain := List.mem_of_getElem? (i := 6) rfl
theorem fm_X4_plain_23 : Cond.fieldLink RX4 23 "EdgeBenchModel" "there" "[Z" ∈ wsX4_plain := List.mem_of_getElem? (i := 7) rfl
theorem hdn_X4_things : yX4_things.cls ≠ "java/lang/invoke/MethodHandle" ∧ yX4_things.cls ≠ "java/lang/invoke/VarHandle" ∧ (parseMethodDescriptor yX4_things.desc).map (fun d => d.parameters.length) = some 0 := by decide +kernel
theorem cw_X4_plain_56_0_0 {R : Room} {s : State} {args : Array Value} (hts : ∀ w ∈ wsX4_plain, w.before args s = true) (hN : nsW s) (hR : 0 + 1 ≤ R.frames ∧ 8 + (1 + 11) + 0 ≤ R.locals) : CallW R s args RX4 RX4 56 yX4_things cX4_things 1 (some .int) wsX4_things { frames := 0, cells := 0, slots := 0, locals := 0 } 0 0 0 := cwV 0 hts gX4_plain_X4_things rfl rfl rfl ⟨rfl, hdn_X4_things⟩ hR
theorem fm_X4_plain_27 : Cond.fieldLink RX4 27 "EdgeBenchModel" "number" "[I" ∈ wsX4_plain := List.mem_of_getElem? (i := 8) rfl
theorem fm_X4_plain_20 : Cond.fieldLink RX4 20 "EdgeBenchModel" "high" "[I" ∈ wsX4_plain := List.mem_of_getElem? (i := 10) rfl
theorem fm_X4_plain_16 : Cond.fieldLink RX4 16 "EdgeBenchModel" "low" "[I" ∈ wsX4_plain := List.mem_of_getElem? (i := 9) rfl
set_option maxHeartbeats 20000000 in
set_option maxRecDepth 100000 in
theorem c_X4_plain (l : Launch) (g : Gt) (md : Nat → Nat) (xt : Int32) (mi : Nat) (mo : Nat) (mw : Nat) (ni : Nat) (no : Nat) (ns : Nat) (nb : Nat) (wd : Nat) (tp : Int64) (bl : Int64) (wt : Int64) (wb : Int64) (lo : Nat → Int32) (hi : Nat → Int32) (tr : Nat → Int32) (nu : Nat → Int32) (am : Nat → Int32) (hmi : mi ≤ 2) (hmo : mo ≤ 2) (hmw : mw ≤ 12) (h01 : ∀ j : Nat, tr j = 0 ∨ tr j = 1) : CV l yX4_plain wsX4_plain { frames := 1, cells := 0, slots := 0, locals := 20 } g [.ref (md 0)] [(md 0, .inr (4, [.int (xt), .int (nI mi), .int (nI mo), .int (nI mw), .ref (md 1), .ref (md 2), .ref (md 3), .int (nI ni), .int (nI no), .ref (md 4), .ref (md 5), .ref (md 6), .int (nI ns), .ref (md 7), .ref (md 8), .int (nI nb), .int (nI wd), .ref (md 9), .long (tp), .long (bl), .long (wt), .long (wb)])), (md 1, aI g 48 lo), (md 2, aI g 48 hi), (md 3, aZ g 12 tr), (md 4, aI g 48 nu), (md 5, aZ g 12 am)] (fun (zu : Unit) => True) (fun (zu : Unit) => [(md 0, .inr (4, [.int (xt), .int (nI mi), .int (nI mo), .int (nI mw), .ref (md 1), .ref (md 2), .ref (md 3), .int (nI mi), .int (nI mo), .ref (md 4), .ref (md 5), .ref (md 6), .int (nI ns), .ref (md 7), .ref (md 8), .int (nI nb), .int (nI wd), .ref (md 9), .long (tp), .long (bl), .long (wt), .long (wb)])), (md 1, aI g 48 lo), (md 2, aI g 48 hi), (md 3, aZ g 12 tr), (md 4, aI g 48 (rtO lo hi mi (mi + mo) 0 mw nu)), (md 5, aZ g 12 (pI am 0 tr mw))]) 0 0 := by
  refine ent_v (cc := cX4_plain) (maxL := 3) (by decide) rfl (Nat.le_of_ble_eq_true rfl) ?_
  intro p e s m below meth c A args Q hE ret ls hl
  obtain ⟨hx, hb, hml, hown, hts, hnm, hA, hP, hD, hK, hN⟩ := hE
  have hS : va_S A s.heap s.heap [] := va_S.rf
  have hl : lv_has ls 3 [(0, .ref (md 0))] := hl
  have hP : va_P g.1 vwCl [(md 0, .inr (4, [.int (xt), .int (nI mi), .int (nI mo), .int (nI mw), .ref (md 1), .ref (md 2), .ref (md 3), .int (nI ni), .int (nI no), .ref (md 4), .ref (md 5), .ref (md 6), .int (nI ns), .ref (md 7), .ref (md 8), .int (nI nb), .int (nI wd), .ref (md 9), .long (tp), .long (bl), .long (wt), .long (wb)])), (md 1, aI g 48 lo), (md 2, aI g 48 hi), (md 3, aZ g 12 tr), (md 4, aI g 48 nu), (md 5, aZ g 12 am)] s.heap := hP
  refine lv_aload_n hx hb dX4_plain_0 rfl (lv_at hl 0 rfl) ?_
  refine lv_aload_n hx hb dX4_plain_1 rfl (lv_at hl 0 rfl) ?_
  refine k_get hx hb hts hown hK hP iw_X4_plain_X4 rfl 0 1 fm_X4_plain_9 (by decide) rfl rfl dX4_plain_2 ?_
  refine k_put hx hb hts hown hK hP hD hS iw_X4_plain_X4 rfl tyX4 tyX4_ok nmX4 0 7 fm_X4_plain_64 (by decide) rfl rfl rfl rfl rfl (Nat.le_of_ble_eq_true rfl) dX4_plain_5 (fun H locs hP hD hS => ?_)
  have hP : va_P g.1 vwCl [(md 0, .inr (4, [.int (xt), .int (nI mi), .int (nI mo), .int (nI mw), .ref (md 1), .ref (md 2), .ref (md 3), .int (nI mi), .int (nI no), .ref (md 4), .ref (md 5), .ref (md 6), .int (nI ns), .ref (md 7), .ref (md 8), .int (nI nb), .int (nI wd), .ref (md 9), .long (tp), .long (bl), .long (wt), .long (wb)])), (md 1, aI g 48 lo), (md 2, aI g 48 hi), (md 3, aZ g 12 tr), (md 4, aI g 48 nu), (md 5, aZ g 12 am)] H := hP
  have hD : va_D A [(md 0, .inr (4, [.int (xt), .int (nI mi), .int (nI mo), .int (nI mw), .ref (md 1), .ref (md 2), .ref (md 3), .int (nI mi), .int (nI no), .ref (md 4), .ref (md 5), .ref (md 6), .int (nI ns), .ref (md 7), .ref (md 8), .int (nI nb), .int (nI wd), .ref (md 9), .long (tp), .long (bl), .long (wt), .long (wb)])), (md 1, aI g 48 lo), (md 2, aI g 48 hi), (md 3, aZ g 12 tr), (md 4, aI g 48 nu), (md 5, aZ g 12 am)] := hD
  refine lv_aload_n hx hb dX4_plain_8 rfl (lv_at hl 0 rfl) ?_
  refine lv_aload_n hx hb dX4_plain_9 rfl (lv_at hl 0 rfl) ?_
  refine k_get hx hb hts hown hK hP iw_X4_plain_X4 rfl 0 2 fm_X4_plain_13 (by decide) rfl rfl dX4_plain_10 ?_
  refine k_put hx hb hts hown hK hP hD hS iw_X4_plain_X4 rfl tyX4 tyX4_ok nmX4 0 8 fm_X4_plain_67 (by decide) rfl rfl rfl rfl rfl (Nat.le_of_ble_eq_true rfl) dX4_plain_13 (fun H locs hP hD hS => ?_)
  have hP : va_P g.1 vwCl [(md 0, .inr (4, [.int (xt), .int (nI mi), .int (nI mo), .int (nI mw), .ref (md 1), .ref (md 2), .ref (md 3), .int (nI mi), .int (nI mo), .ref (md 4), .ref (md 5), .ref (md 6), .int (nI ns), .ref (md 7), .ref (md 8), .int (nI nb), .int (nI wd), .ref (md 9), .long (tp), .long (bl), .long (wt), .long (wb)])), (md 1, aI g 48 lo), (md 2, aI g 48 hi), (md 3, aZ g 12 tr), (md 4, aI g 48 nu), (md 5, aZ g 12 am)] H := hP
  have hD : va_D A [(md 0, .inr (4, [.int (xt), .int (nI mi), .int (nI mo), .int (nI mw), .ref (md 1), .ref (md 2), .ref (md 3), .int (nI mi), .int (nI mo), .ref (md 4), .ref (md 5), .ref (md 6), .int (nI ns), .ref (md 7), .ref (md 8), .int (nI nb), .int (nI wd), .ref (md 9), .long (tp), .long (bl), .long (wt), .long (wb)])), (md 1, aI g 48 lo), (md 2, aI g 48 hi), (md 3, aZ g 12 tr), (md 4, aI g 48 nu), (md 5, aZ g 12 am)] := hD
  refine lv_iconst (v := nI 0) hx hb dX4_plain_16 (by decide) ?_
  refine lv_istore_n (lv' := [(1, .int (nI 0)), (0, .ref (md 0))]) hx hb dX4_plain_17 rfl hl (by decide) rfl (fun ls hl => ?_)
  have lp_18 : ∀ (n : Nat) (w : Nat) (f : Nat → Int32), mw - w < n → w ≤ mw → rtO lo hi mi (mi + mo) 0 mw nu = rtO lo hi mi (mi + mo) w (mw - w) f → ∀ (H : Heap) (locs : List Loc), va_P g.1 vwCl [(md 0, .inr (4, [.int (xt), .int (nI mi), .int (nI mo), .int (nI mw), .ref (md 1), .ref (md 2), .ref (md 3), .int (nI mi), .int (nI mo), .ref (md 4), .ref (md 5), .ref (md 6), .int (nI ns), .ref (md 7), .ref (md 8), .int (nI nb), .int (nI wd), .ref (md 9), .long (tp), .long (bl), .long (wt), .long (wb)])), (md 1, aI g 48 lo), (md 2, aI g 48 hi), (md 3, aZ g 12 tr), (md 4, aI g 48 f), (md 5, aZ g 12 (pI am 0 tr w))] H → va_D A [(md 0, .inr (4, [.int (xt), .int (nI mi), .int (nI mo), .int (nI mw), .ref (md 1), .ref (md 2), .ref (md 3), .int (nI mi), .int (nI mo), .ref (md 4), .ref (md 5), .ref (md 6), .int (nI ns), .ref (md 7), .ref (md 8), .int (nI nb), .int (nI wd), .ref (md 9), .long (tp), .long (bl), .long (wt), .long (wb)])), (md 1, aI g 48 lo), (md 2, aI g 48 hi), (md 3, aZ g 12 tr), (md 4, aI g 48 f), (md 5, aZ g 12 (pI am 0 tr w))] → va_S A s.heap H locs → ∀ ls : Array Slot, lv_has ls 3 [(0, .ref (md 0)), (1, .int (nI w))] → W p l e { frames := 1, cells := 0, slots := 0, locals := 20 } s m args below meth c H locs 0 0 Q (F0 m 18 ls []) := by
    intro n
    induction n with
    | zero =>
      intro w f hms
      omega
    | succ n ih_18 =>
      intro w f hms_18 hw hv H locs hP hD hS ls hl
      refine lv_iload_n hx hb dX4_plain_18 rfl (lv_at hl 1 rfl) ?_
      refine lv_aload_n hx hb dX4_plain_19 rfl (lv_at hl 0 rfl) ?_
      refine k_get hx hb hts hown hK hP iw_X4_plain_X4 rfl 0 3 fm_X4_plain_49 (by decide) rfl rfl dX4_plain_20 ?_
      refine lv_icmp_ge (tgt := 101) hx hb dX4_plain_23 (by decide) (fun c_1 => ?_) (fun c_1 => ?_)
      · skip
        have c_1 := (nI_leI (by omega) (by omega)).mp c_1
        have hfin : f = rtO lo hi mi (mi + mo) 0 mw nu := by rw [hv, show mw - w = 0 by omega]; rfl
        clear hv
        subst hfin
        have hwm : w = mw := by omega
        clear hms_18
        subst hwm
        exact ret dX4_plain_101 () (trivial) hP hD hS
      · skip
        have c_1 := mt (nI_leI (by omega) (by omega)).mpr c_1
        refine lv_aload_n hx hb dX4_plain_26 rfl (lv_at hl 0 rfl) ?_
        refine k_get hx hb hts hown hK hP iw_X4_plain_X4 rfl 0 10 fm_X4_plain_30 (by decide) rfl rfl dX4_plain_27 ?_
        refine lv_iload_n hx hb dX4_plain_30 rfl (lv_at hl 1 rfl) ?_
        refine lv_aload_n hx hb dX4_plain_31 rfl (lv_at hl 0 rfl) ?_
        refine k_get hx hb hts hown hK hP iw_X4_plain_X4 rfl 0 6 fm_X4_plain_23 (by decide) rfl rfl dX4_plain_32 ?_
        refine lv_iload_n hx hb dX4_plain_35 rfl (lv_at hl 1 rfl) ?_
        refine k_zald hx hb hK hP 3 rfl (by omega) (by omega) dX4_plain_36 ?_
        refine k_zast hx hb hK hP hD hS 5 rfl (by omega) (by omega) (h01 w) dX4_plain_37 (fun H locs hP hD hS => ?_)
        have hP : va_P g.1 vwCl [(md 0, .inr (4, [.int (xt), .int (nI mi), .int (nI mo), .int (nI mw), .ref (md 1), .ref (md 2), .ref (md 3), .int (nI mi), .int (nI mo), .ref (md 4), .ref (md 5), .ref (md 6), .int (nI ns), .ref (md 7), .ref (md 8), .int (nI nb), .int (nI wd), .ref (md 9), .long (tp), .long (bl), .long (wt), .long (wb)])), (md 1, aI g 48 lo), (md 2, aI g 48 hi), (md 3, aZ g 12 tr), (md 4, aI g 48 f), (md 5, aZ g 12 (upd (pI am 0 tr w) w (tr w)))] H := hP
        have hD : va_D A [(md 0, .inr (4, [.int (xt), .int (nI mi), .int (nI mo), .int (nI mw), .ref (md 1), .ref (md 2), .ref (md 3), .int (nI mi), .int (nI mo), .ref (md 4), .ref (md 5), .ref (md 6), .int (nI ns), .ref (md 7), .ref (md 8), .int (nI nb), .int (nI wd), .ref (md 9), .long (tp), .long (bl), .long (wt), .long (wb)])), (md 1, aI g 48 lo), (md 2, aI g 48 hi), (md 3, aZ g 12 tr), (md 4, aI g 48 f), (md 5, aZ g 12 (upd (pI am 0 tr w) w (tr w)))] := hD
        have e_2 : upd (pI am 0 tr w) w (tr w) = pI am 0 tr (w + 1) := by rw [← pI_succ am 0 tr w (x := tr w) rfl, Nat.zero_add]
        rw [e_2] at hP hD
        refine lv_iconst (v := nI 0) hx hb dX4_plain_38 (by decide) ?_
        refine lv_istore_n (lv' := [(2, .int (nI 0)), (0, .ref (md 0)), (1, .int (nI w))]) hx hb dX4_plain_39 rfl hl (by decide) rfl (fun ls hl => ?_)
        have lp_40 : ∀ (n : Nat) (k : Nat) (h : Nat → Int32), mi + mo - k < n → k ≤ 4 → rtI lo hi mi w 0 (mi + mo) f = rtI lo hi mi w k (mi + mo - k) h → ∀ (H : Heap) (locs : List Loc), va_P g.1 vwCl [(md 0, .inr (4, [.int (xt), .int (nI mi), .int (nI mo), .int (nI mw), .ref (md 1), .ref (md 2), .ref (md 3), .int (nI mi), .int (nI mo), .ref (md 4), .ref (md 5), .ref (md 6), .int (nI ns), .ref (md 7), .ref (md 8), .int (nI nb), .int (nI wd), .ref (md 9), .long (tp), .long (bl), .long (wt), .long (wb)])), (md 1, aI g 48 lo), (md 2, aI g 48 hi), (md 3, aZ g 12 tr), (md 4, aI g 48 h), (md 5, aZ g 12 (pI am 0 tr (w + 1)))] H → va_D A [(md 0, .inr (4, [.int (xt), .int (nI mi), .int (nI mo), .int (nI mw), .ref (md 1), .ref (md 2), .ref (md 3), .int (nI mi), .int (nI mo), .ref (md 4), .ref (md 5), .ref (md 6), .int (nI ns), .ref (md 7), .ref (md 8), .int (nI nb), .int (nI wd), .ref (md 9), .long (tp), .long (bl), .long (wt), .long (wb)])), (md 1, aI g 48 lo), (md 2, aI g 48 hi), (md 3, aZ g 12 tr), (md 4, aI g 48 h), (md 5, aZ g 12 (pI am 0 tr (w + 1)))] → va_S A s.heap H locs → ∀ ls : Array Slot, lv_has ls 3 [(0, .ref (md 0)), (1, .int (nI w)), (2, .int (nI k))] → W p l e { frames := 1, cells := 0, slots := 0, locals := 20 } s m args below meth c H locs 0 0 Q (F0 m 40 ls []) := by
          intro n
          induction n with
          | zero =>
            intro k h hms
            omega
          | succ n ih_40 =>
            intro k h hms_40 hk hI H locs hP hD hS ls hl
            refine lv_iload_n hx hb dX4_plain_40 rfl (lv_at hl 2 rfl) ?_
            refine lv_aload_n hx hb dX4_plain_41 rfl (lv_at hl 0 rfl) ?_
            refine go_i (wc := [(md 0, .inr (4, [.int (xt), .int (nI mi), .int (nI mo), .int (nI mw), .ref (md 1), .ref (md 2), .ref (md 3), .int (nI mi), .int (nI mo), .ref (md 4), .ref (md 5), .ref (md 6), .int (nI ns), .ref (md 7), .ref (md 8), .int (nI nb), .int (nI wd), .ref (md 9), .long (tp), .long (bl), .long (wt), .long (wb)]))]) (wr := [(md 1, aI g 48 lo), (md 2, aI g 48 hi), (md 3, aZ g 12 tr), (md 4, aI g 48 h), (md 5, aZ g 12 (pI am 0 tr (w + 1)))]) hP hD hS hA [0] [1, 2, 3, 4, 5] rfl rfl rfl rfl (by decide) (fun hPc hDc => rn_V (As := []) (rest := [.int (nI k)]) ⟨hx, hb, hml, hown, hts⟩ ((c_X4_things l g md xt mi mo mw mi mo ns nb wd tp bl wt wb ) _) (cw_X4_plain_56_0_0 hts hN ⟨Nat.le_of_ble_eq_true rfl, Nat.le_of_ble_eq_true rfl⟩) hK hN hPc hDc 0 rfl rfl rfl rfl hl.1 (Nat.le_of_ble_eq_true rfl) dX4_plain_42 ⟨Nat.le_of_ble_eq_true rfl, Nat.le_of_ble_eq_true rfl⟩) ?_
            intro r_3 u_4 H locs h_5 hP hD hS
            have hP : va_P g.1 vwCl [(md 0, .inr (4, [.int (xt), .int (nI mi), .int (nI mo), .int (nI mw), .ref (md 1), .ref (md 2), .ref (md 3), .int (nI mi), .int (nI mo), .ref (md 4), .ref (md 5), .ref (md 6), .int (nI ns), .ref (md 7), .ref (md 8), .int (nI nb), .int (nI wd), .ref (md 9), .long (tp), .long (bl), .long (wt), .long (wb)])), (md 1, aI g 48 lo), (md 2, aI g 48 hi), (md 3, aZ g 12 tr), (md 4, aI g 48 h), (md 5, aZ g 12 (pI am 0 tr (w + 1)))] H := hP.sub [5, 0, 1, 2, 3, 4] rfl
            have hD : va_D A [(md 0, .inr (4, [.int (xt), .int (nI mi), .int (nI mo), .int (nI mw), .ref (md 1), .ref (md 2), .ref (md 3), .int (nI mi), .int (nI mo), .ref (md 4), .ref (md 5), .ref (md 6), .int (nI ns), .ref (md 7), .ref (md 8), .int (nI nb), .int (nI wd), .ref (md 9), .long (tp), .long (bl), .long (wt), .long (wb)])), (md 1, aI g 48 lo), (md 2, aI g 48 hi), (md 3, aZ g 12 tr), (md 4, aI g 48 h), (md 5, aZ g 12 (pI am 0 tr (w + 1)))] := hD.sub [5, 0, 1, 2, 3, 4] rfl rfl
            have h_5 : r_3 = nI (mi + mo) := h_5
            subst h_5
            refine lv_icmp_ge (tgt := 95) hx hb dX4_plain_45 (by decide) (fun c_6 => ?_) (fun c_6 => ?_)
            · skip
              have c_6 := (nI_leI (by omega) (by omega)).mp c_6
              have hv2 : rtO lo hi mi (mi + mo) 0 mw nu = rtO lo hi mi (mi + mo) (w + 1) (mw - (w + 1)) h := by rw [hv, show mw - w = (mw - (w + 1)) + 1 by omega, rtO, hI, show mi + mo - k = 0 by omega]; rfl
              refine lv_iinc (v := nI (w + 1)) (lv' := [(1, .int (nI (w + 1))), (0, .ref (md 0)), (2, .int (nI k))]) hx hb dX4_plain_95 hl (k := 1) rfl (nI_inc1 w) (by decide) rfl (fun ls hl => ?_)
              refine lv_goto (tgt := 18) hx hb dX4_plain_98 (by decide) ?_
              exact ih_18 (w + 1) h (by omega) (by omega) hv2 _ _ hP hD hS ls (lv_sub hl [1, 0] rfl)
            · skip
              have c_6 := mt (nI_leI (by omega) (by omega)).mpr c_6
              refine lv_aload_n hx hb dX4_plain_48 rfl (lv_at hl 0 rfl) ?_
              refine k_get hx hb hts hown hK hP iw_X4_plain_X4 rfl 0 9 fm_X4_plain_27 (by decide) rfl rfl dX4_plain_49 ?_
              refine lv_iconst (v := nI 4) hx hb dX4_plain_52 (by decide) ?_
              refine lv_iload_n hx hb dX4_plain_53 rfl (lv_at hl 1 rfl) ?_
              refine lv_imul hx hb dX4_plain_54 ?_
              refine k_ei (y := nI (w * 4)) ((pk_mul _ _).trans (congrArg nI (Nat.mul_comm _ _))) ?_
              refine lv_iload_n hx hb dX4_plain_55 rfl (lv_at hl 2 rfl) ?_
              refine lv_iadd hx hb dX4_plain_56 ?_
              refine k_ei (y := nI (w * 4 + k)) (nI_add _ _) ?_
              refine lv_iload_n hx hb dX4_plain_57 rfl (lv_at hl 2 rfl) ?_
              refine lv_aload_n hx hb dX4_plain_58 rfl (lv_at hl 0 rfl) ?_
              refine k_get hx hb hts hown hK hP iw_X4_plain_X4 rfl 0 1 fm_X4_plain_9 (by decide) rfl rfl dX4_plain_59 ?_
              have lp_88 : ∀ (H : Heap) (locs : List Loc), va_P g.1 vwCl [(md 0, .inr (4, [.int (xt), .int (nI mi), .int (nI mo), .int (nI mw), .ref (md 1), .ref (md 2), .ref (md 3), .int (nI mi), .int (nI mo), .ref (md 4), .ref (md 5), .ref (md 6), .int (nI ns), .ref (md 7), .ref (md 8), .int (nI nb), .int (nI wd), .ref (md 9), .long (tp), .long (bl), .long (wt), .long (wb)])), (md 1, aI g 48 lo), (md 2, aI g 48 hi), (md 3, aZ g 12 tr), (md 4, aI g 48 h), (md 5, aZ g 12 (pI am 0 tr (w + 1)))] H → va_D A [(md 0, .inr (4, [.int (xt), .int (nI mi), .int (nI mo), .int (nI mw), .ref (md 1), .ref (md 2), .ref (md 3), .int (nI mi), .int (nI mo), .ref (md 4), .ref (md 5), .ref (md 6), .int (nI ns), .ref (md 7), .ref (md 8), .int (nI nb), .int (nI wd), .ref (md 9), .long (tp), .long (bl), .long (wt), .long (wb)])), (md 1, aI g 48 lo), (md 2, aI g 48 hi), (md 3, aZ g 12 tr), (md 4, aI g 48 h), (md 5, aZ g 12 (pI am 0 tr (w + 1)))] → va_S A s.heap H locs → ∀ ls : Array Slot, lv_has ls 3 [(0, .ref (md 0)), (1, .int (nI w)), (2, .int (nI k))] → W p l e { frames := 1, cells := 0, slots := 0, locals := 20 } s m args below meth c H locs 0 0 Q (F0 m 88 ls [.int (if k < mi then lo (w * 4 + k) else hi (w * 4 + k)), .int (nI (w * 4 + k)), .ref (md 4)]) := by
                intro   H locs hP hD hS ls hl
                refine k_iast hx hb hK hP hD hS 4 rfl (by omega) (by omega) dX4_plain_88 (fun H locs hP hD hS => ?_)
                have hP : va_P g.1 vwCl [(md 0, .inr (4, [.int (xt), .int (nI mi), .int (nI mo), .int (nI mw), .ref (md 1), .ref (md 2), .ref (md 3), .int (nI mi), .int (nI mo), .ref (md 4), .ref (md 5), .ref (md 6), .int (nI ns), .ref (md 7), .ref (md 8), .int (nI nb), .int (nI wd), .ref (md 9), .long (tp), .long (bl), .long (wt), .long (wb)])), (md 1, aI g 48 lo), (md 2, aI g 48 hi), (md 3, aZ g 12 tr), (md 4, aI g 48 (upd h (w * 4 + k) (if k < mi then lo (w * 4 + k) else hi (w * 4 + k)))), (md 5, aZ g 12 (pI am 0 tr (w + 1)))] H := hP
                have hD : va_D A [(md 0, .inr (4, [.int (xt), .int (nI mi), .int (nI mo), .int (nI mw), .ref (md 1), .ref (md 2), .ref (md 3), .int (nI mi), .int (nI mo), .ref (md 4), .ref (md 5), .ref (md 6), .int (nI ns), .ref (md 7), .ref (md 8), .int (nI nb), .int (nI wd), .ref (md 9), .long (tp), .long (bl), .long (wt), .long (wb)])), (md 1, aI g 48 lo), (md 2, aI g 48 hi), (md 3, aZ g 12 tr), (md 4, aI g 48 (upd h (w * 4 + k) (if k < mi then lo (w * 4 + k) else hi (w * 4 + k)))), (md 5, aZ g 12 (pI am 0 tr (w + 1)))] := hD
                refine lv_iinc (v := nI (k + 1)) (lv' := [(2, .int (nI (k + 1))), (0, .ref (md 0)), (1, .int (nI w))]) hx hb dX4_plain_89 hl (k := 2) rfl (nI_inc1 k) (by decide) rfl (fun ls hl => ?_)
                refine lv_goto (tgt := 40) hx hb dX4_plain_92 (by decide) ?_
                exact ih_40 (k + 1) (upd h (w * 4 + k) (if k < mi then lo (w * 4 + k) else hi (w * 4 + k))) (by omega) (by omega) (by rw [hI, show mi + mo - k = (mi + mo - (k + 1)) + 1 by omega, rtI]) _ _ hP hD hS ls (lv_sub hl [1, 2, 0] rfl)
              refine lv_icmp_ge (tgt := 78) hx hb dX4_plain_62 (by decide) (fun c_7 => ?_) (fun c_7 => ?_)
              · skip
                have c_7 := (nI_leI (by omega) (by omega)).mp c_7
                refine lv_aload_n hx hb dX4_plain_78 rfl (lv_at hl 0 rfl) ?_
                refine k_get hx hb hts hown hK hP iw_X4_plain_X4 rfl 0 5 fm_X4_plain_20 (by decide) rfl rfl dX4_plain_79 ?_
                refine lv_iconst (v := nI 4) hx hb dX4_plain_82 (by decide) ?_
                refine lv_iload_n hx hb dX4_plain_83 rfl (lv_at hl 1 rfl) ?_
                refine lv_imul hx hb dX4_plain_84 ?_
                refine k_ei (y := nI (w * 4)) ((pk_mul _ _).trans (congrArg nI (Nat.mul_comm _ _))) ?_
                refine lv_iload_n hx hb dX4_plain_85 rfl (lv_at hl 2 rfl) ?_
                refine lv_iadd hx hb dX4_plain_86 ?_
                refine k_ei (y := nI (w * 4 + k)) (nI_add _ _) ?_
                refine k_iald hx hb hK hP 2 rfl (by omega) (by omega) dX4_plain_87 ?_
                refine k_ei (y := if k < mi then lo (w * 4 + k) else hi (w * 4 + k)) ((if_neg (show ¬ k < mi by omega)).symm) ?_
                exact lp_88   _ _ hP hD hS ls (lv_sub hl [0, 1, 2] rfl)
              · skip
                have c_7 := mt (nI_leI (by omega) (by omega)).mpr c_7
                refine lv_aload_n hx hb dX4_plain_65 rfl (lv_at hl 0 rfl) ?_
                refine k_get hx hb hts hown hK hP iw_X4_plain_X4 rfl 0 4 fm_X4_plain_16 (by decide) rfl rfl dX4_plain_66 ?_
                refine lv_iconst (v := nI 4) hx hb dX4_plain_69 (by decide) ?_
                refine lv_iload_n hx hb dX4_plain_70 rfl (lv_at hl 1 rfl) ?_
                refine lv_imul hx hb dX4_plain_71 ?_
                refine k_ei (y := nI (w * 4)) ((pk_mul _ _).trans (congrArg nI (Nat.mul_comm _ _))) ?_
                refine lv_iload_n hx hb dX4_plain_72 rfl (lv_at hl 2 rfl) ?_
                refine lv_iadd hx hb dX4_plain_73 ?_
                refine k_ei (y := nI (w * 4 + k)) (nI_add _ _) ?_
                refine k_iald hx hb hK hP 1 rfl (by omega) (by omega) dX4_plain_74 ?_
                refine k_ei (y := if k < mi then lo (w * 4 + k) else hi (w * 4 + k)) ((if_pos (show k < mi by omega)).symm) ?_
                refine lv_goto (tgt := 88) hx hb dX4_plain_75 (by decide) ?_
                exact lp_88   _ _ hP hD hS ls (lv_sub hl [0, 1, 2] rfl)
        exact lp_40 (mi + mo - 0 + 1) 0 f (by omega) (by omega) rfl _ _ hP hD hS ls (lv_sub hl [1, 2, 0] rfl)
  exact lp_18 (mw - 0 + 1) 0 nu (by omega) (by omega) rfl _ _ (by rw [pI_0]; exact hP) (by rw [pI_0]; exact hD) hS ls (lv_sub hl [1, 0] rfl)
theorem iw_X4_taken_X4 : ∀ w ∈ wsX40, w ∈ wsX4_taken := fun w h => List.mem_cons_of_mem _ (List.mem_append_right _ h)
theorem fm_X4_taken_64 : Cond.fieldLink RX4 64 "EdgeBenchModel" "nIn" "I" ∈ wsX4_taken := List.mem_of_getElem? (i := 1) rfl
theorem fm_X4_taken_27 : Cond.fieldLink RX4 27 "EdgeBenchModel" "number" "[I" ∈ wsX4_taken := by decide +kernel
set_option maxHeartbeats 20000000 in
set_option maxRecDepth 100000 in
theorem c_X4_taken (l : Launch) (g : Gt) (md : Nat → Nat) (xt : Int32) (mi : Nat) (mo : Nat) (mw : Nat) (ni : Nat) (no : Nat) (ns : Nat) (nb : Nat) (wd : Nat) (tp : Int64) (bl : Int64) (wt : Int64) (wb : Int64) (nu : Nat → Int32) (w : Nat) (hw : w < 12) (hni : ni ≤ 2) : CI l yX4_taken wsX4_taken { frames := 0, cells := 0, slots := 0, locals := 0 } g [.ref (md 0), .int (nI w)] [(md 0, .inr (4, [.int (xt), .int (nI mi), .int (nI mo), .int (nI mw), .ref (md 1), .ref (md 2), .ref (md 3), .int (nI ni), .int (nI no), .ref (md 4), .ref (md 5), .ref (md 6), .int (nI ns), .ref (md 7), .ref (md 8), .int (nI nb), .int (nI wd), .ref (md 9), .long (tp), .long (bl), .long (wt), .long (wb)])), (md 4, aI g 48 nu)] (fun zr (zu : Unit) => zr = smN nu (w * 4) ni) (fun (zu : Unit) => [(md 0, .inr (4, [.int (xt), .int (nI mi), .int (nI mo), .int (nI mw), .ref (md 1), .ref (md 2), .ref (md 3), .int (nI ni), .int (nI no), .ref (md 4), .ref (md 5), .ref (md 6), .int (nI ns), .ref (md 7), .ref (md 8), .int (nI nb), .int (nI wd), .ref (md 9), .long (tp), .long (bl), .long (wt), .long (wb)])), (md 4, aI g 48 nu)]) 0 0 := by
  refine ent_i (cc := cX4_taken) (maxL := 4) (by decide) rfl (Nat.le_of_ble_eq_true rfl) ?_
  intro p e s m below meth c A args Q hE ret ls hl
  obtain ⟨hx, hb, hml, hown, hts, hnm, hA, hP, hD, hK, hN⟩ := hE
  have hS : va_S A s.heap s.heap [] := va_S.rf
  have hl : lv_has ls 4 [(0, .ref (md 0)), (1, .int (nI w))] := hl
  have hP : va_P g.1 vwCl [(md 0, .inr (4, [.int (xt), .int (nI mi), .int (nI mo), .int (nI mw), .ref (md 1), .ref (md 2), .ref (md 3), .int (nI ni), .int (nI no), .ref (md 4), .ref (md 5), .ref (md 6), .int (nI ns), .ref (md 7), .ref (md 8), .int (nI nb), .int (nI wd), .ref (md 9), .long (tp), .long (bl), .long (wt), .long (wb)])), (md 4, aI g 48 nu)] s.heap := hP
  refine lv_iconst (v := nI 0) hx hb dX4_taken_0 (by decide) ?_
  refine lv_istore_n (lv' := [(2, .int (nI 0)), (0, .ref (md 0)), (1, .int (nI w))]) hx hb dX4_taken_1 rfl hl (by decide) rfl (fun ls hl => ?_)
  refine lv_iconst (v := nI 0) hx hb dX4_taken_2 (by decide) ?_
  refine lv_istore_n (lv' := [(3, .int (nI 0)), (2, .int (nI 0)), (0, .ref (md 0)), (1, .int (nI w))]) hx hb dX4_taken_3 rfl hl (by decide) rfl (fun ls hl => ?_)
  have lp_4 : ∀ (n : Nat) (k : Nat), ni - k < n → k ≤ ni → ∀ (H : Heap) (locs : List Loc), va_P g.1 vwCl [(md 0, .inr (4, [.int (xt), .int (nI mi), .int (nI mo), .int (nI mw), .ref (md 1), .ref (md 2), .ref (md 3), .int (nI ni), .int (nI no), .ref (md 4), .ref (md 5), .ref (md 6), .int (nI ns), .ref (md 7), .ref (md 8), .int (nI nb), .int (nI wd), .ref (md 9), .long (tp), .long (bl), .long (wt), .long (wb)])), (md 4, aI g 48 nu)] H → va_D A [(md 0, .inr (4, [.int (xt), .int (nI mi), .int (nI mo), .int (nI mw), .ref (md 1), .ref (md 2), .ref (md 3), .int (nI ni), .int (nI no), .ref (md 4), .ref (md 5), .ref (md 6), .int (nI ns), .ref (md 7), .ref (md 8), .int (nI nb), .int (nI wd), .ref (md 9), .long (tp), .long (bl), .long (wt), .long (wb)])), (md 4, aI g 48 nu)] → va_S A s.heap H locs → ∀ ls : Array Slot, lv_has ls 4 [(0, .ref (md 0)), (1, .int (nI w)), (2, .int (smN nu (w * 4) k)), (3, .int (nI k))] → W p l e { frames := 0, cells := 0, slots := 0, locals := 0 } s m args below meth c H locs 0 0 Q (F0 m 4 ls []) := by
    intro n
    induction n with
    | zero =>
      intro k hms
      omega
    | succ n ih_4 =>
      intro k hms_4 hk H locs hP hD hS ls hl
      refine lv_iload_n hx hb dX4_taken_4 rfl (lv_at hl 3 rfl) ?_
      refine lv_aload_n hx hb dX4_taken_5 rfl (lv_at hl 0 rfl) ?_
      refine k_get hx hb hts hown hK hP iw_X4_taken_X4 rfl 0 7 fm_X4_taken_64 (by decide) rfl rfl dX4_taken_6 ?_
      refine lv_icmp_ge (tgt := 31) hx hb dX4_taken_9 (by decide) (fun c_1 => ?_) (fun c_1 => ?_)
      · skip
        have c_1 := (nI_leI (by omega) (by omega)).mp c_1
        refine lv_iload_n hx hb dX4_taken_31 rfl (lv_at hl 2 rfl) ?_
        exact ret dX4_taken_32 () (by rw [show k = ni by omega]) hP hD hS
      · skip
        have c_1 := mt (nI_leI (by omega) (by omega)).mpr c_1
        refine lv_iload_n hx hb dX4_taken_12 rfl (lv_at hl 2 rfl) ?_
        refine lv_aload_n hx hb dX4_taken_13 rfl (lv_at hl 0 rfl) ?_
        refine k_get hx hb hts hown hK hP iw_X4_taken_X4 rfl 0 9 fm_X4_taken_27 (by decide) rfl rfl dX4_taken_14 ?_
        refine lv_iconst (v := nI 4) hx hb dX4_taken_17 (by decide) ?_
        refine lv_iload_n hx hb dX4_taken_18 rfl (lv_at hl 1 rfl) ?_
        refine lv_imul hx hb dX4_taken_19 ?_
        refine k_ei (y := nI (w * 4)) ((pk_mul _ _).trans (congrArg nI (Nat.mul_comm _ _))) ?_
        refine lv_iload_n hx hb dX4_taken_20 rfl (lv_at hl 3 rfl) ?_
        refine lv_iadd hx hb dX4_taken_21 ?_
        refine k_ei (y := nI (w * 4 + k)) (nI_add _ _) ?_
        refine k_iald hx hb hK hP 1 rfl (by omega) (by omega) dX4_taken_22 ?_
        refine lv_iadd hx hb dX4_taken_23 ?_
        refine lv_istore_n (lv' := [(2, .int ((smN nu (w * 4) k) + (nu (w * 4 + k)))), (0, .ref (md 0)), (1, .int (nI w)), (3, .int (nI k))]) hx hb dX4_taken_24 rfl hl (by decide) rfl (fun ls hl => ?_)
        refine lv_iinc (v := nI (k + 1)) (lv' := [(3, .int (nI (k + 1))), (2, .int ((smN nu (w * 4) k) + (nu (w * 4 + k)))), (0, .ref (md 0)), (1, .int (nI w))]) hx hb dX4_taken_25 hl (k := 3) rfl (nI_inc1 k) (by decide) rfl (fun ls hl => ?_)
        refine lv_goto (tgt := 4) hx hb dX4_taken_28 (by decide) ?_
        exact ih_4 (k + 1) (by omega) (by omega) _ _ hP hD hS ls (lv_sub hl [2, 3, 1, 0] rfl)
  exact lp_4 (ni - 0 + 1) 0 (by omega) (by omega) _ _ hP hD hS ls (lv_sub hl [2, 3, 1, 0] rfl)
theorem iw_X4_given_X4 : ∀ w ∈ wsX40, w ∈ wsX4_given := fun w h => List.mem_cons_of_mem _ (List.mem_append_right _ h)
theorem fm_X4_given_64 : Cond.fieldLink RX4 64 "EdgeBenchModel" "nIn" "I" ∈ wsX4_given := List.mem_of_getElem? (i := 1) rfl
theorem fm_X4_given_67 : Cond.fieldLink RX4 67 "EdgeBenchModel" "nOut" "I" ∈ wsX4_given := List.mem_of_getElem? (i := 2) rfl
theorem fm_X4_given_27 : Cond.fieldLink RX4 27 "EdgeBenchModel" "number" "[I" ∈ wsX4_given := by decide +kernel
set_option maxHeartbeats 20000000 in
set_option maxRecDepth 100000 in
theorem c_X4_given (l : Launch) (g : Gt) (md : Nat → Nat) (xt : Int32) (mi : Nat) (mo : Nat) (mw : Nat) (ni : Nat) (no : Nat) (ns : Nat) (nb : Nat) (wd : Nat) (tp : Int64) (bl : Int64) (wt : Int64) (wb : Int64) (nu : Nat → Int32) (w : Nat) (hw : w < 12) (hni : ni ≤ 2) (hno : no ≤ 2) : CI l yX4_given wsX4_given { frames := 0, cells := 0, slots := 0, locals := 0 } g [.ref (md 0), .int (nI w)] [(md 0, .inr (4, [.int (xt), .int (nI mi), .int (nI mo), .int (nI mw), .ref (md 1), .ref (md 2), .ref (md 3), .int (nI ni), .int (nI no), .ref (md 4), .ref (md 5), .ref (md 6), .int (nI ns), .ref (md 7), .ref (md 8), .int (nI nb), .int (nI wd), .ref (md 9), .long (tp), .long (bl), .long (wt), .long (wb)])), (md 4, aI g 48 nu)] (fun zr (zu : Unit) => zr = smN nu (w * 4 + ni) no) (fun (zu : Unit) => [(md 0, .inr (4, [.int (xt), .int (nI mi), .int (nI mo), .int (nI mw), .ref (md 1), .ref (md 2), .ref (md 3), .int (nI ni), .int (nI no), .ref (md 4), .ref (md 5), .ref (md 6), .int (nI ns), .ref (md 7), .ref (md 8), .int (nI nb), .int (nI wd), .ref (md 9), .long (tp), .long (bl), .long (wt), .long (wb)])), (md 4, aI g 48 nu)]) 0 0 := by
  refine ent_i (cc := cX4_given) (maxL := 4) (by decide) rfl (Nat.le_of_ble_eq_true rfl) ?_
  intro p e s m below meth c A args Q hE ret ls hl
  obtain ⟨hx, hb, hml, hown, hts, hnm, hA, hP, hD, hK, hN⟩ := hE
  have hS : va_S A s.heap s.heap [] := va_S.rf
  have hl : lv_has ls 4 [(0, .ref (md 0)), (1, .int (nI w))] := hl
  have hP : va_P g.1 vwCl [(md 0, .inr (4, [.int (xt), .int (nI mi), .int (nI mo), .int (nI mw), .ref (md 1), .ref (md 2), .ref (md 3), .int (nI ni), .int (nI no), .ref (md 4), .ref (md 5), .ref (md 6), .int (nI ns), .ref (md 7), .ref (md 8), .int (nI nb), .int (nI wd), .ref (md 9), .long (tp), .long (bl), .long (wt), .long (wb)])), (md 4, aI g 48 nu)] s.heap := hP
  refine lv_iconst (v := nI 0) hx hb dX4_given_0 (by decide) ?_
  refine lv_istore_n (lv' := [(2, .int (nI 0)), (0, .ref (md 0)), (1, .int (nI w))]) hx hb dX4_given_1 rfl hl (by decide) rfl (fun ls hl => ?_)
  refine lv_aload_n hx hb dX4_given_2 rfl (lv_at hl 1 rfl) ?_
  refine k_get hx hb hts hown hK hP iw_X4_given_X4 rfl 0 7 fm_X4_given_64 (by decide) rfl rfl dX4_given_3 ?_
  refine lv_istore_n (lv' := [(3, .int (nI ni)), (2, .int (nI 0)), (0, .ref (md 0)), (1, .int (nI w))]) hx hb dX4_given_6 rfl hl (by decide) rfl (fun ls hl => ?_)
  have lp_7 : ∀ (n : Nat) (k : Nat), no - k < n → k ≤ no → ∀ (H : Heap) (locs : List Loc), va_P g.1 vwCl [(md 0, .inr (4, [.int (xt), .int (nI mi), .int (nI mo), .int (nI mw), .ref (md 1), .ref (md 2), .ref (md 3), .int (nI ni), .int (nI no), .ref (md 4), .ref (md 5), .ref (md 6), .int (nI ns), .ref (md 7), .ref (md 8), .int (nI nb), .int (nI wd), .ref (md 9), .long (tp), .long (bl), .long (wt), .long (wb)])), (md 4, aI g 48 nu)] H → va_D A [(md 0, .inr (4, [.int (xt), .int (nI mi), .int (nI mo), .int (nI mw), .ref (md 1), .ref (md 2), .ref (md 3), .int (nI ni), .int (nI no), .ref (md 4), .ref (md 5), .ref (md 6), .int (nI ns), .ref (md 7), .ref (md 8), .int (nI nb), .int (nI wd), .ref (md 9), .long (tp), .long (bl), .long (wt), .long (wb)])), (md 4, aI g 48 nu)] → va_S A s.heap H locs → ∀ ls : Array Slot, lv_has ls 4 [(0, .ref (md 0)), (1, .int (nI w)), (2, .int (smN nu (w * 4 + ni) k)), (3, .int (nI (ni + k)))] → W p l e { frames := 0, cells := 0, slots := 0, locals := 0 } s m args below meth c H locs 0 0 Q (F0 m 7 ls []) := by
    intro n
    induction n with
    | zero =>
      intro k hms
      omega
    | succ n ih_7 =>
      intro k hms_7 hk H locs hP hD hS ls hl
      refine lv_iload_n hx hb dX4_given_7 rfl (lv_at hl 3 rfl) ?_
      refine lv_aload_n hx hb dX4_given_8 rfl (lv_at hl 0 rfl) ?_
      refine k_get hx hb hts hown hK hP iw_X4_given_X4 rfl 0 7 fm_X4_given_64 (by decide) rfl rfl dX4_given_9 ?_
      refine lv_aload_n hx hb dX4_given_12 rfl (lv_at hl 0 rfl) ?_
      refine k_get hx hb hts hown hK hP iw_X4_given_X4 rfl 0 8 fm_X4_given_67 (by decide) rfl rfl dX4_given_13 ?_
      refine lv_iadd hx hb dX4_given_16 ?_
      refine k_ei (y := nI (ni + no)) (nI_add _ _) ?_
      refine lv_icmp_ge (tgt := 39) hx hb dX4_given_17 (by decide) (fun c_1 => ?_) (fun c_1 => ?_)
      · skip
        have c_1 := (nI_leI (by omega) (by omega)).mp c_1
        refine lv_iload_n hx hb dX4_given_39 rfl (lv_at hl 2 rfl) ?_
        exact ret dX4_given_40 () (by rw [show k = no by omega]) hP hD hS
      · skip
        have c_1 := mt (nI_leI (by omega) (by omega)).mpr c_1
        refine lv_iload_n hx hb dX4_given_20 rfl (lv_at hl 2 rfl) ?_
        refine lv_aload_n hx hb dX4_given_21 rfl (lv_at hl 0 rfl) ?_
        refine k_get hx hb hts hown hK hP iw_X4_given_X4 rfl 0 9 fm_X4_given_27 (by decide) rfl rfl dX4_given_22 ?_
        refine lv_iconst (v := nI 4) hx hb dX4_given_25 (by decide) ?_
        refine lv_iload_n hx hb dX4_given_26 rfl (lv_at hl 1 rfl) ?_
        refine lv_imul hx hb dX4_given_27 ?_
        refine k_ei (y := nI (w * 4)) ((pk_mul _ _).trans (congrArg nI (Nat.mul_comm _ _))) ?_
        refine lv_iload_n hx hb dX4_given_28 rfl (lv_at hl 3 rfl) ?_
        refine lv_iadd hx hb dX4_given_29 ?_
        refine k_ei (y := nI (w * 4 + (ni + k))) (nI_add _ _) ?_
        refine k_iald hx hb hK hP 1 rfl (by omega) (by omega) dX4_given_30 ?_
        refine k_ei (y := nu (w * 4 + ni + k)) (by rw [Nat.add_assoc]) ?_
        refine lv_iadd hx hb dX4_given_31 ?_
        refine lv_istore_n (lv' := [(2, .int ((smN nu (w * 4 + ni) k) + (nu (w * 4 + ni + k)))), (0, .ref (md 0)), (1, .int (nI w)), (3, .int (nI (ni + k)))]) hx hb dX4_given_32 rfl hl (by decide) rfl (fun ls hl => ?_)
        refine lv_iinc (v := nI (ni + k + 1)) (lv' := [(3, .int (nI (ni + k + 1))), (2, .int ((smN nu (w * 4 + ni) k) + (nu (w * 4 + ni + k)))), (0, .ref (md 0)), (1, .int (nI w))]) hx hb dX4_given_33 hl (k := 3) rfl (nI_inc1 (ni + k)) (by decide) rfl (fun ls hl => ?_)
        refine lv_goto (tgt := 7) hx hb dX4_given_36 (by decide) ?_
        exact ih_7 (k + 1) (by omega) (by omega) _ _ hP hD hS ls (lv_sub hl [2, 3, 1, 0] rfl)
  exact lp_7 (no - 0 + 1) 0 (by omega) (by omega) _ _ hP hD hS ls (lv_sub hl [2, 3, 1, 0] rfl)
set_option maxHeartbeats 20000000 in
set_option maxRecDepth 100000 in
theorem c_X4_common (l : Launch) (g : Gt) (xa : Int64) (xb : Int64) : CL l yX4_common wsX4_common { frames := 1, cells := 0, slots := 0, locals := 40 } g [.long (xa), .long (xb)] [] (fun zr (zu : Unit) => zr = cmD xa xb) (fun (zu : Unit) => []) 0 0 := by
  refine ent_l (cc := cX4_common) (maxL := 10) (by decide) rfl (Nat.le_of_ble_eq_true rfl) ?_
  intro p e s m below meth c A args Q hE ret ls hl
  obtain ⟨hx, hb, hml, hown, hts, hnm, hA, hP, hD, hK, hN⟩ := hE
  have hS : va_S A s.heap s.heap [] := va_S.rf
  have hl : lv_has ls 10 [(0, .long (xa)), (2, .long (xb))] := hl
  have hP : va_P g.1 vwCl [] s.heap := hP
  refine lv_lload_n hx hb dX4_common_0 rfl (lv_at hl 0 rfl) ?_
  refine va_mabs_long hx hb (hml.trans hl.1.symm) hown (hts (.methodLink RX4 95 Lib.MathLoose.abs_long.x) (List.mem_of_getElem? (i := 1) rfl)) (hts (.static Lib.MathLoose.abs_long.x) (List.mem_of_getElem? (i := 2) rfl)) (hts (.initialized "java/lang/Math") (List.mem_of_getElem? (i := 3) rfl)) (hts (.code Lib.MathLoose.abs_long.x Lib.MathLoose.abs_long.code 2 (some .long)) (List.mem_of_getElem? (i := 4) rfl)) (Nat.le_of_ble_eq_true rfl) (Nat.le_of_ble_eq_true rfl) (Nat.le_of_ble_eq_true rfl) (Nat.le_of_ble_eq_true rfl) dX4_common_1 ?_
  refine k_el (y := abM xa) rfl ?_
  refine lv_lstore (lv' := [(4, .long (abM xa)), (0, .long (xa)), (2, .long (xb))]) hx hb dX4_common_4 hl (by decide) rfl (fun ls hl => ?_)
  refine lv_lload_n hx hb dX4_common_6 rfl (lv_at hl 2 rfl) ?_
  refine va_mabs_long hx hb (hml.trans hl.1.symm) hown (hts (.methodLink RX4 95 Lib.MathLoose.abs_long.x) (List.mem_of_getElem? (i := 1) rfl)) (hts (.static Lib.MathLoose.abs_long.x) (List.mem_of_getElem? (i := 2) rfl)) (hts (.initialized "java/lang/Math") (List.mem_of_getElem? (i := 3) rfl)) (hts (.code Lib.MathLoose.abs_long.x Lib.MathLoose.abs_long.code 2 (some .long)) (List.mem_of_getElem? (i := 4) rfl)) (Nat.le_of_ble_eq_true rfl) (Nat.le_of_ble_eq_true rfl) (Nat.le_of_ble_eq_true rfl) (Nat.le_of_ble_eq_true rfl) dX4_common_7 ?_
  refine k_el (y := abM xb) rfl ?_
  refine lv_lstore (lv' := [(6, .long (abM xb)), (4, .long (abM xa)), (0, .long (xa)), (2, .long (xb))]) hx hb dX4_common_10 hl (by decide) rfl (fun ls hl => ?_)
  have lp_12 : ∀ (n : Nat) (x : Int64) (y : Int64), y.toInt.natAbs < n → cmD xa xb = cmW x y → ∀ (H : Heap) (locs : List Loc), va_P g.1 vwCl [] H → va_D A [] → va_S A s.heap H locs → ∀ ls : Array Slot, lv_has ls 10 [(4, .long (x)), (6, .long (y))] → W p l e { frames := 1, cells := 0, slots := 0, locals := 40 } s m args below meth c H locs 0 0 Q (F0 m 12 ls []) := by
    intro n
    induction n with
    | zero =>
      intro x y hms
      omega
    | succ n ih_12 =>
      intro x y hms_12 hv H locs hP hD hS ls hl
      refine lv_lload hx hb dX4_common_12 (lv_at hl 1 rfl) ?_
      refine lv_lconst (v := 0) hx hb dX4_common_14 (by decide) ?_
      refine W.lcmp hx hb dX4_common_15 ?_
      refine lv_if_eq (tgt := 37) hx hb dX4_common_16 (by decide) (fun c_1 => ?_) (fun c_1 => ?_)
      · skip
        have c_1 := (lc_eq _ _).mp c_1
        have hy := c_1
        refine lv_lload hx hb dX4_common_37 (lv_at hl 0 rfl) ?_
        exact ret dX4_common_39 () (by rw [hv, cmW, dif_pos hy]) hP hD hS
      · skip
        have c_1 := mt (lc_eq _ _).mpr c_1
        have hy := c_1
        refine lv_lload hx hb dX4_common_19 (lv_at hl 0 rfl) ?_
        refine lv_lload hx hb dX4_common_21 (lv_at hl 1 rfl) ?_
        refine lv_lrem hx hb dX4_common_23 (hy) ?_
        refine lv_lstore (lv' := [(8, .long (x - x / y * y)), (4, .long (x)), (6, .long (y))]) hx hb dX4_common_24 hl (by decide) rfl (fun ls hl => ?_)
        refine lv_lload hx hb dX4_common_26 (lv_at hl 2 rfl) ?_
        refine lv_lstore (lv' := [(4, .long (y)), (8, .long (x - x / y * y)), (6, .long (y))]) hx hb dX4_common_28 hl (by decide) rfl (fun ls hl => ?_)
        refine lv_lload hx hb dX4_common_30 (lv_at hl 1 rfl) ?_
        refine lv_lstore (lv' := [(6, .long (x - x / y * y)), (4, .long (y)), (8, .long (x - x / y * y))]) hx hb dX4_common_32 hl (by decide) rfl (fun ls hl => ?_)
        refine lv_goto (tgt := 12) hx hb dX4_common_34 (by decide) ?_
        exact ih_12 y (x - x / y * y) (Nat.lt_of_lt_of_le (i64_abs_rem hy) (Nat.le_of_lt_succ hms_12)) (by rw [hv, cmW, dif_neg hy]) _ _ hP hD hS ls (lv_sub hl [1, 0] rfl)
  exact lp_12 ((abM xb).toInt.natAbs + 1) (abM xa) (abM xb) (by omega) rfl _ _ hP hD hS ls (lv_sub hl [1, 0] rfl)
theorem iw_X4_told_X4 : ∀ w ∈ wsX40, w ∈ wsX4_told := fun w h => List.mem_cons_of_mem _ (List.mem_append_right _ h)
theorem fm_X4_told_70 : Cond.fieldLink RX4 70 "EdgeBenchModel" "wide" "I" ∈ wsX4_told := by decide +kernel
theorem fm_X4_told_40 : Cond.fieldLink RX4 40 "EdgeBenchModel" "way" "[J" ∈ wsX4_told := List.mem_of_getElem? (i := 1) rfl
set_option maxHeartbeats 20000000 in
set_option maxRecDepth 100000 in
theorem c_X4_told (l : Launch) (g : Gt) (md : Nat → Nat) (xt : Int32) (mi : Nat) (mo : Nat) (mw : Nat) (ni : Nat) (no : Nat) (ns : Nat) (nb : Nat) (wd : Nat) (tp : Int64) (bl : Int64) (wt : Int64) (wb : Int64) (wy : Nat → Int64) (k : Nat) (t : Nat) (sg : Int32) (hk : k < 5) (ht : t < 5) (hwd : wd < 6) : CL l yX4_told wsX4_told { frames := 0, cells := 0, slots := 0, locals := 0 } g [.ref (md 0), .int (nI k), .int (nI t), .int (sg)] [(md 0, .inr (4, [.int (xt), .int (nI mi), .int (nI mo), .int (nI mw), .ref (md 1), .ref (md 2), .ref (md 3), .int (nI ni), .int (nI no), .ref (md 4), .ref (md 5), .ref (md 6), .int (nI ns), .ref (md 7), .ref (md 8), .int (nI nb), .int (nI wd), .ref (md 9), .long (tp), .long (bl), .long (wt), .long (wb)])), (md 8, aJ g 5 wy)] (fun zr (zu : Unit) => zr = tdV wy wd k t sg) (fun (zu : Unit) => [(md 0, .inr (4, [.int (xt), .int (nI mi), .int (nI mo), .int (nI mw), .ref (md 1), .ref (md 2), .ref (md 3), .int (nI ni), .int (nI no), .ref (md 4), .ref (md 5), .ref (md 6), .int (nI ns), .ref (md 7), .ref (md 8), .int (nI nb), .int (nI wd), .ref (md 9), .long (tp), .long (bl), .long (wt), .long (wb)])), (md 8, aJ g 5 wy)]) 0 0 := by
  refine ent_l (cc := cX4_told) (maxL := 4) (by decide) rfl (Nat.le_of_ble_eq_true rfl) ?_
  intro p e s m below meth c A args Q hE ret ls hl
  obtain ⟨hx, hb, hml, hown, hts, hnm, hA, hP, hD, hK, hN⟩ := hE
  have hS : va_S A s.heap s.heap [] := va_S.rf
  have hl : lv_has ls 4 [(0, .ref (md 0)), (1, .int (nI k)), (2, .int (nI t)), (3, .int (sg))] := hl
  have hP : va_P g.1 vwCl [(md 0, .inr (4, [.int (xt), .int (nI mi), .int (nI mo), .int (nI mw), .ref (md 1), .ref (md 2), .ref (md 3), .int (nI ni), .int (nI no), .ref (md 4), .ref (md 5), .ref (md 6), .int (nI ns), .ref (md 7), .ref (md 8), .int (nI nb), .int (nI wd), .ref (md 9), .long (tp), .long (bl), .long (wt), .long (wb)])), (md 8, aJ g 5 wy)] s.heap := hP
  refine lv_iload_n hx hb dX4_told_0 rfl (lv_at hl 1 rfl) ?_
  refine lv_iload_n hx hb dX4_told_1 rfl (lv_at hl 2 rfl) ?_
  refine lv_icmp_ge (tgt := 17) hx hb dX4_told_2 (by decide) (fun c_1 => ?_) (fun c_1 => ?_)
  · skip
    have c_1 := (nI_leI (by omega) (by omega)).mp c_1
    have h1 : ¬ k < t := by omega
    refine lv_iload_n hx hb dX4_told_17 rfl (lv_at hl 1 rfl) ?_
    refine lv_iconst (v := nI 4) hx hb dX4_told_18 (by decide) ?_
    refine lv_icmp_ne (tgt := 42) hx hb dX4_told_19 (by decide) (fun c_2 => ?_) (fun c_2 => ?_)
    · skip
      have c_2 := mt (nI_eq (by omega) (by omega)).mpr c_2
      have hres : tdV wy wd k t sg = 0 := by rw [tdV, if_neg h1, if_neg (fun q => c_2 q.1)]
      refine lv_lconst (v := 0) hx hb dX4_told_42 (by decide) ?_
      exact ret dX4_told_43 () (hres.symm) hP hD hS
    · skip
      have c_2 := (nI_eq (by omega) (by omega)).mp c_2
      have h2 := c_2
      refine lv_aload_n hx hb dX4_told_22 rfl (lv_at hl 0 rfl) ?_
      refine k_get hx hb hts hown hK hP iw_X4_told_X4 rfl 0 16 fm_X4_told_70 (by decide) rfl rfl dX4_told_23 ?_
      refine lv_iload_n hx hb dX4_told_26 rfl (lv_at hl 2 rfl) ?_
      refine lv_icmp_le (tgt := 42) hx hb dX4_told_27 (by decide) (fun c_3 => ?_) (fun c_3 => ?_)
      · skip
        have c_3 := (nI_leI (by omega) (by omega)).mp c_3
        have hres : tdV wy wd k t sg = 0 := by rw [tdV, if_neg h1, if_neg (fun q => by omega)]
        refine lv_lconst (v := 0) hx hb dX4_told_42 (by decide) ?_
        exact ret dX4_told_43 () (hres.symm) hP hD hS
      · skip
        have c_3 := mt (nI_leI (by omega) (by omega)).mpr c_3
        have hres : tdV wy wd k t sg = sg.toInt64 * wy t := by rw [tdV, if_neg h1, if_pos ⟨h2, by omega⟩]
        refine lv_iload_n hx hb dX4_told_30 rfl (lv_at hl 3 rfl) ?_
        refine lv_i2l hx hb dX4_told_31 rfl ?_
        refine lv_aload_n hx hb dX4_told_32 rfl (lv_at hl 0 rfl) ?_
        refine k_get hx hb hts hown hK hP iw_X4_told_X4 rfl 0 14 fm_X4_told_40 (by decide) rfl rfl dX4_told_33 ?_
        refine lv_iload_n hx hb dX4_told_36 rfl (lv_at hl 2 rfl) ?_
        refine k_lald hx hb hK hP 1 rfl (by omega) (by omega) dX4_told_37 ?_
        refine lv_lmul hx hb dX4_told_38 ?_
        refine lv_goto (tgt := 43) hx hb dX4_told_39 (by decide) ?_
        exact ret dX4_told_43 () (hres.symm) hP hD hS
  · skip
    have c_1 := mt (nI_leI (by omega) (by omega)).mpr c_1
    have hres : tdV wy wd k t sg = sg.toInt64 * wy k := if_pos (by omega)
    refine lv_iload_n hx hb dX4_told_5 rfl (lv_at hl 3 rfl) ?_
    refine lv_i2l hx hb dX4_told_6 rfl ?_
    refine lv_aload_n hx hb dX4_told_7 rfl (lv_at hl 0 rfl) ?_
    refine k_get hx hb hts hown hK hP iw_X4_told_X4 rfl 0 14 fm_X4_told_40 (by decide) rfl rfl dX4_told_8 ?_
    refine lv_iload_n hx hb dX4_told_11 rfl (lv_at hl 1 rfl) ?_
    refine k_lald hx hb hK hP 1 rfl (by omega) (by omega) dX4_told_12 ?_
    refine lv_lmul hx hb dX4_told_13 ?_
    refine lv_goto (tgt := 43) hx hb dX4_told_14 (by decide) ?_
    exact ret dX4_told_43 () (hres.symm) hP hD hS
theorem iw_X4_inWeighed_X4 : ∀ w ∈ wsX40, w ∈ wsX4_inWeighed := fun w h => List.mem_cons_of_mem _ (List.mem_append_right _ h)
theorem fm_X4_inWeighed_64 : Cond.fieldLink RX4 64 "EdgeBenchModel" "nIn" "I" ∈ wsX4_inWeighed := List.mem_of_getElem? (i := 1) rfl
theorem fm_X4_inWeighed_33 : Cond.fieldLink RX4 33 "EdgeBenchModel" "side" "[J" ∈ wsX4_inWeighed := List.mem_of_getElem? (i := 2) rfl
theorem fm_X4_inWeighed_27 : Cond.fieldLink RX4 27 "EdgeBenchModel" "number" "[I" ∈ wsX4_inWeighed := by decide +kernel
set_option maxHeartbeats 20000000 in
set_option maxRecDepth 100000 in
theorem c_X4_inWeighed (l : Launch) (g : Gt) (md : Nat → Nat) (xt : Int32) (mi : Nat) (mo : Nat) (mw : Nat) (ni : Nat) (no : Nat) (ns : Nat) (nb : Nat) (wd : Nat) (tp : Int64) (bl : Int64) (wt : Int64) (wb : Int64) (nu : Nat → Int32) (sd : Nat → Int64) (i : Nat) (w : Nat) (hi2 : i < 2600) (hw : w < 12) (hni : ni ≤ 2) : CL l yX4_inWeighed wsX4_inWeighed { frames := 0, cells := 0, slots := 0, locals := 0 } g [.ref (md 0), .int (nI i), .int (nI w)] [(md 0, .inr (4, [.int (xt), .int (nI mi), .int (nI mo), .int (nI mw), .ref (md 1), .ref (md 2), .ref (md 3), .int (nI ni), .int (nI no), .ref (md 4), .ref (md 5), .ref (md 6), .int (nI ns), .ref (md 7), .ref (md 8), .int (nI nb), .int (nI wd), .ref (md 9), .long (tp), .long (bl), .long (wt), .long (wb)])), (md 4, aI g 48 nu), (md 6, aJ g 13000 sd)] (fun zr (zu : Unit) => zr = insW sd nu i w ni) (fun (zu : Unit) => [(md 0, .inr (4, [.int (xt), .int (nI mi), .int (nI mo), .int (nI mw), .ref (md 1), .ref (md 2), .ref (md 3), .int (nI ni), .int (nI no), .ref (md 4), .ref (md 5), .ref (md 6), .int (nI ns), .ref (md 7), .ref (md 8), .int (nI nb), .int (nI wd), .ref (md 9), .long (tp), .long (bl), .long (wt), .long (wb)])), (md 4, aI g 48 nu), (md 6, aJ g 13000 sd)]) 0 0 := by
  refine ent_l (cc := cX4_inWeighed) (maxL := 6) (by decide) rfl (Nat.le_of_ble_eq_true rfl) ?_
  intro p e s m below meth c A args Q hE ret ls hl
  obtain ⟨hx, hb, hml, hown, hts, hnm, hA, hP, hD, hK, hN⟩ := hE
  have hS : va_S A s.heap s.heap [] := va_S.rf
  have hl : lv_has ls 6 [(0, .ref (md 0)), (1, .int (nI i)), (2, .int (nI w))] := hl
  have hP : va_P g.1 vwCl [(md 0, .inr (4, [.int (xt), .int (nI mi), .int (nI mo), .int (nI mw), .ref (md 1), .ref (md 2), .ref (md 3), .int (nI ni), .int (nI no), .ref (md 4), .ref (md 5), .ref (md 6), .int (nI ns), .ref (md 7), .ref (md 8), .int (nI nb), .int (nI wd), .ref (md 9), .long (tp), .long (bl), .long (wt), .long (wb)])), (md 4, aI g 48 nu), (md 6, aJ g 13000 sd)] s.heap := hP
  refine lv_lconst (v := 0) hx hb dX4_inWeighed_0 (by decide) ?_
  refine lv_lstore_n (lv' := [(3, .long (0)), (0, .ref (md 0)), (1, .int (nI i)), (2, .int (nI w))]) hx hb dX4_inWeighed_1 rfl hl (by decide) rfl (fun ls hl => ?_)
  refine lv_iconst (v := nI 0) hx hb dX4_inWeighed_2 (by decide) ?_
  refine lv_istore (lv' := [(5, .int (nI 0)), (3, .long (0)), (0, .ref (md 0)), (1, .int (nI i)), (2, .int (nI w))]) hx hb dX4_inWeighed_3 hl (by decide) rfl (fun ls hl => ?_)
  have lp_5 : ∀ (n : Nat) (k : Nat), ni - k < n → k ≤ ni → ∀ (H : Heap) (locs : List Loc), va_P g.1 vwCl [(md 0, .inr (4, [.int (xt), .int (nI mi), .int (nI mo), .int (nI mw), .ref (md 1), .ref (md 2), .ref (md 3), .int (nI ni), .int (nI no), .ref (md 4), .ref (md 5), .ref (md 6), .int (nI ns), .ref (md 7), .ref (md 8), .int (nI nb), .int (nI wd), .ref (md 9), .long (tp), .long (bl), .long (wt), .long (wb)])), (md 4, aI g 48 nu), (md 6, aJ g 13000 sd)] H → va_D A [(md 0, .inr (4, [.int (xt), .int (nI mi), .int (nI mo), .int (nI mw), .ref (md 1), .ref (md 2), .ref (md 3), .int (nI ni), .int (nI no), .ref (md 4), .ref (md 5), .ref (md 6), .int (nI ns), .ref (md 7), .ref (md 8), .int (nI nb), .int (nI wd), .ref (md 9), .long (tp), .long (bl), .long (wt), .long (wb)])), (md 4, aI g 48 nu), (md 6, aJ g 13000 sd)] → va_S A s.heap H locs → ∀ ls : Array Slot, lv_has ls 6 [(0, .ref (md 0)), (1, .int (nI i)), (2, .int (nI w)), (3, .long (insW sd nu i w k)), (5, .int (nI k))] → W p l e { frames := 0, cells := 0, slots := 0, locals := 0 } s m args below meth c H locs 0 0 Q (F0 m 5 ls []) := by
    intro n
    induction n with
    | zero =>
      intro k hms
      omega
    | succ n ih_5 =>
      intro k hms_5 hk H locs hP hD hS ls hl
      refine lv_iload hx hb dX4_inWeighed_5 (lv_at hl 4 rfl) ?_
      refine lv_aload_n hx hb dX4_inWeighed_7 rfl (lv_at hl 0 rfl) ?_
      refine k_get hx hb hts hown hK hP iw_X4_inWeighed_X4 rfl 0 7 fm_X4_inWeighed_64 (by decide) rfl rfl dX4_inWeighed_8 ?_
      refine lv_icmp_ge (tgt := 47) hx hb dX4_inWeighed_11 (by decide) (fun c_1 => ?_) (fun c_1 => ?_)
      · skip
        have c_1 := (nI_leI (by omega) (by omega)).mp c_1
        refine lv_lload_n hx hb dX4_inWeighed_47 rfl (lv_at hl 3 rfl) ?_
        exact ret dX4_inWeighed_48 () (by rw [show k = ni by omega]) hP hD hS
      · skip
        have c_1 := mt (nI_leI (by omega) (by omega)).mpr c_1
        refine lv_lload_n hx hb dX4_inWeighed_14 rfl (lv_at hl 3 rfl) ?_
        refine lv_aload_n hx hb dX4_inWeighed_15 rfl (lv_at hl 0 rfl) ?_
        refine k_get hx hb hts hown hK hP iw_X4_inWeighed_X4 rfl 0 11 fm_X4_inWeighed_33 (by decide) rfl rfl dX4_inWeighed_16 ?_
        refine lv_iconst (v := nI 5) hx hb dX4_inWeighed_19 (by decide) ?_
        refine lv_iload_n hx hb dX4_inWeighed_20 rfl (lv_at hl 1 rfl) ?_
        refine lv_imul hx hb dX4_inWeighed_21 ?_
        refine k_ei (y := nI (i * 5)) ((pk_mul _ _).trans (congrArg nI (Nat.mul_comm _ _))) ?_
        refine lv_iload hx hb dX4_inWeighed_22 (lv_at hl 4 rfl) ?_
        refine lv_iadd hx hb dX4_inWeighed_24 ?_
        refine k_ei (y := nI (i * 5 + k)) (nI_add _ _) ?_
        refine k_lald hx hb hK hP 2 rfl (by omega) (by omega) dX4_inWeighed_25 ?_
        refine lv_aload_n hx hb dX4_inWeighed_26 rfl (lv_at hl 0 rfl) ?_
        refine k_get hx hb hts hown hK hP iw_X4_inWeighed_X4 rfl 0 9 fm_X4_inWeighed_27 (by decide) rfl rfl dX4_inWeighed_27 ?_
        refine lv_iconst (v := nI 4) hx hb dX4_inWeighed_30 (by decide) ?_
        refine lv_iload_n hx hb dX4_inWeighed_31 rfl (lv_at hl 2 rfl) ?_
        refine lv_imul hx hb dX4_inWeighed_32 ?_
        refine k_ei (y := nI (w * 4)) ((pk_mul _ _).trans (congrArg nI (Nat.mul_comm _ _))) ?_
        refine lv_iload hx hb dX4_inWeighed_33 (lv_at hl 4 rfl) ?_
        refine lv_iadd hx hb dX4_inWeighed_35 ?_
        refine k_ei (y := nI (w * 4 + k)) (nI_add _ _) ?_
        refine k_iald hx hb hK hP 1 rfl (by omega) (by omega) dX4_inWeighed_36 ?_
        refine lv_i2l hx hb dX4_inWeighed_37 rfl ?_
        refine lv_lmul hx hb dX4_inWeighed_38 ?_
        refine lv_ladd hx hb dX4_inWeighed_39 ?_
        refine lv_lstore_n (lv' := [(3, .long ((insW sd nu i w k) + ((sd (i * 5 + k)) * ((nu (w * 4 + k)).toInt64)))), (0, .ref (md 0)), (1, .int (nI i)), (2, .int (nI w)), (5, .int (nI k))]) hx hb dX4_inWeighed_40 rfl hl (by decide) rfl (fun ls hl => ?_)
        refine lv_iinc (v := nI (k + 1)) (lv' := [(5, .int (nI (k + 1))), (3, .long ((insW sd nu i w k) + ((sd (i * 5 + k)) * ((nu (w * 4 + k)).toInt64)))), (0, .ref (md 0)), (1, .int (nI i)), (2, .int (nI w))]) hx hb dX4_inWeighed_41 hl (k := 4) rfl (nI_inc1 k) (by decide) rfl (fun ls hl => ?_)
        refine lv_goto (tgt := 5) hx hb dX4_inWeighed_44 (by decide) ?_
        exact ih_5 (k + 1) (by omega) (by omega) _ _ hP hD hS ls (lv_sub hl [2, 3, 4, 1, 0] rfl)
  exact lp_5 (ni - 0 + 1) 0 (by omega) (by omega) _ _ hP hD hS ls (lv_sub hl [2, 3, 4, 1, 0] rfl)
theorem iw_X4_outWeighed_X4 : ∀ w ∈ wsX40, w ∈ wsX4_outWeighed := fun w h => List.mem_cons_of_mem _ (List.mem_append_right _ h)
theorem fm_X4_outWeighed_33 : Cond.fieldLink RX4 33 "EdgeBenchModel" "side" "[J" ∈ wsX4_outWeighed := List.mem_of_getElem? (i := 1) rfl
theorem fm_X4_outWeighed_64 : Cond.fieldLink RX4 64 "EdgeBenchModel" "nIn" "I" ∈ wsX4_outWeighed := List.mem_of_getElem? (i := 2) rfl
theorem fm_X4_outWeighed_67 : Cond.fieldLink RX4 67 "EdgeBenchModel" "nOut" "I" ∈ wsX4_outWeighed := List.mem_of_getElem? (i := 3) rfl
theorem fm_X4_outWeighed_27 : Cond.fieldLink RX4 27 "EdgeBenchModel" "number" "[I" ∈ wsX4_outWeighed := by decide +kernel
set_option maxHeartbeats 20000000 in
set_option maxRecDepth 100000 in
theorem c_X4_outWeighed (l : Launch) (g : Gt) (md : Nat → Nat) (xt : Int32) (mi : Nat) (mo : Nat) (mw : Nat) (ni : Nat) (no : Nat) (ns : Nat) (nb : Nat) (wd : Nat) (tp : Int64) (bl : Int64) (wt : Int64) (wb : Int64) (nu : Nat → Int32) (sd : Nat → Int64) (i : Nat) (w : Nat) (hi2 : i < 2600) (hw : w < 12) (hni : ni ≤ 2) (hno : no ≤ 2) : CL l yX4_outWeighed wsX4_outWeighed { frames := 0, cells := 0, slots := 0, locals := 0 } g [.ref (md 0), .int (nI i), .int (nI w)] [(md 0, .inr (4, [.int (xt), .int (nI mi), .int (nI mo), .int (nI mw), .ref (md 1), .ref (md 2), .ref (md 3), .int (nI ni), .int (nI no), .ref (md 4), .ref (md 5), .ref (md 6), .int (nI ns), .ref (md 7), .ref (md 8), .int (nI nb), .int (nI wd), .ref (md 9), .long (tp), .long (bl), .long (wt), .long (wb)])), (md 4, aI g 48 nu), (md 6, aJ g 13000 sd)] (fun zr (zu : Unit) => zr = outsW sd nu i w 4 ni no) (fun (zu : Unit) => [(md 0, .inr (4, [.int (xt), .int (nI mi), .int (nI mo), .int (nI mw), .ref (md 1), .ref (md 2), .ref (md 3), .int (nI ni), .int (nI no), .ref (md 4), .ref (md 5), .ref (md 6), .int (nI ns), .ref (md 7), .ref (md 8), .int (nI nb), .int (nI wd), .ref (md 9), .long (tp), .long (bl), .long (wt), .long (wb)])), (md 4, aI g 48 nu), (md 6, aJ g 13000 sd)]) 0 0 := by
  refine ent_l (cc := cX4_outWeighed) (maxL := 6) (by decide) rfl (Nat.le_of_ble_eq_true rfl) ?_
  intro p e s m below meth c A args Q hE ret ls hl
  obtain ⟨hx, hb, hml, hown, hts, hnm, hA, hP, hD, hK, hN⟩ := hE
  have hS : va_S A s.heap s.heap [] := va_S.rf
  have hl : lv_has ls 6 [(0, .ref (md 0)), (1, .int (nI i)), (2, .int (nI w))] := hl
  have hP : va_P g.1 vwCl [(md 0, .inr (4, [.int (xt), .int (nI mi), .int (nI mo), .int (nI mw), .ref (md 1), .ref (md 2), .ref (md 3), .int (nI ni), .int (nI no), .ref (md 4), .ref (md 5), .ref (md 6), .int (nI ns), .ref (md 7), .ref (md 8), .int (nI nb), .int (nI wd), .ref (md 9), .long (tp), .long (bl), .long (wt), .long (wb)])), (md 4, aI g 48 nu), (md 6, aJ g 13000 sd)] s.heap := hP
  refine lv_aload_n hx hb dX4_outWeighed_0 rfl (lv_at hl 0 rfl) ?_
  refine k_get hx hb hts hown hK hP iw_X4_outWeighed_X4 rfl 0 11 fm_X4_outWeighed_33 (by decide) rfl rfl dX4_outWeighed_1 ?_
  refine lv_iconst (v := nI 5) hx hb dX4_outWeighed_4 (by decide) ?_
  refine lv_iload_n hx hb dX4_outWeighed_5 rfl (lv_at hl 1 rfl) ?_
  refine lv_imul hx hb dX4_outWeighed_6 ?_
  refine k_ei (y := nI (i * 5)) ((pk_mul _ _).trans (congrArg nI (Nat.mul_comm _ _))) ?_
  refine lv_iconst (v := nI 5) hx hb dX4_outWeighed_7 (by decide) ?_
  refine lv_iadd hx hb dX4_outWeighed_8 ?_
  refine k_ei (y := nI (i * 5 + 5)) (nI_add _ _) ?_
  refine lv_iconst (v := nI 1) hx hb dX4_outWeighed_9 (by decide) ?_
  refine lv_isub hx hb dX4_outWeighed_10 ?_
  refine k_ei (y := nI ((i * 5 + 5) - 1)) (pk_sub (by omega)) ?_
  refine k_lald hx hb hK hP 2 rfl (by omega) (by omega) dX4_outWeighed_11 ?_
  refine k_el (y := outsW sd nu i w 4 ni 0) (by rw [outsW, show i * 5 + 5 - 1 = i * 5 + 4 by omega]) ?_
  refine lv_lstore_n (lv' := [(3, .long (outsW sd nu i w 4 ni 0)), (0, .ref (md 0)), (1, .int (nI i)), (2, .int (nI w))]) hx hb dX4_outWeighed_12 rfl hl (by decide) rfl (fun ls hl => ?_)
  refine lv_aload_n hx hb dX4_outWeighed_13 rfl (lv_at hl 1 rfl) ?_
  refine k_get hx hb hts hown hK hP iw_X4_outWeighed_X4 rfl 0 7 fm_X4_outWeighed_64 (by decide) rfl rfl dX4_outWeighed_14 ?_
  refine lv_istore (lv' := [(5, .int (nI ni)), (3, .long (outsW sd nu i w 4 ni 0)), (0, .ref (md 0)), (1, .int (nI i)), (2, .int (nI w))]) hx hb dX4_outWeighed_17 hl (by decide) rfl (fun ls hl => ?_)
  have lp_19 : ∀ (n : Nat) (k : Nat), no - k < n → k ≤ no → ∀ (H : Heap) (locs : List Loc), va_P g.1 vwCl [(md 0, .inr (4, [.int (xt), .int (nI mi), .int (nI mo), .int (nI mw), .ref (md 1), .ref (md 2), .ref (md 3), .int (nI ni), .int (nI no), .ref (md 4), .ref (md 5), .ref (md 6), .int (nI ns), .ref (md 7), .ref (md 8), .int (nI nb), .int (nI wd), .ref (md 9), .long (tp), .long (bl), .long (wt), .long (wb)])), (md 4, aI g 48 nu), (md 6, aJ g 13000 sd)] H → va_D A [(md 0, .inr (4, [.int (xt), .int (nI mi), .int (nI mo), .int (nI mw), .ref (md 1), .ref (md 2), .ref (md 3), .int (nI ni), .int (nI no), .ref (md 4), .ref (md 5), .ref (md 6), .int (nI ns), .ref (md 7), .ref (md 8), .int (nI nb), .int (nI wd), .ref (md 9), .long (tp), .long (bl), .long (wt), .long (wb)])), (md 4, aI g 48 nu), (md 6, aJ g 13000 sd)] → va_S A s.heap H locs → ∀ ls : Array Slot, lv_has ls 6 [(0, .ref (md 0)), (1, .int (nI i)), (2, .int (nI w)), (3, .long (outsW sd nu i w 4 ni k)), (5, .int (nI (ni + k)))] → W p l e { frames := 0, cells := 0, slots := 0, locals := 0 } s m args below meth c H locs 0 0 Q (F0 m 19 ls []) := by
    intro n
    induction n with
    | zero =>
      intro k hms
      omega
    | succ n ih_19 =>
      intro k hms_19 hk H locs hP hD hS ls hl
      refine lv_iload hx hb dX4_outWeighed_19 (lv_at hl 4 rfl) ?_
      refine lv_aload_n hx hb dX4_outWeighed_21 rfl (lv_at hl 0 rfl) ?_
      refine k_get hx hb hts hown hK hP iw_X4_outWeighed_X4 rfl 0 7 fm_X4_outWeighed_64 (by decide) rfl rfl dX4_outWeighed_22 ?_
      refine lv_aload_n hx hb dX4_outWeighed_25 rfl (lv_at hl 0 rfl) ?_
      refine k_get hx hb hts hown hK hP iw_X4_outWeighed_X4 rfl 0 8 fm_X4_outWeighed_67 (by decide) rfl rfl dX4_outWeighed_26 ?_
      refine lv_iadd hx hb dX4_outWeighed_29 ?_
      refine k_ei (y := nI (ni + no)) (nI_add _ _) ?_
      refine lv_icmp_ge (tgt := 66) hx hb dX4_outWeighed_30 (by decide) (fun c_1 => ?_) (fun c_1 => ?_)
      · skip
        have c_1 := (nI_leI (by omega) (by omega)).mp c_1
        refine lv_lload_n hx hb dX4_outWeighed_66 rfl (lv_at hl 3 rfl) ?_
        exact ret dX4_outWeighed_67 () (by rw [show k = no by omega]) hP hD hS
      · skip
        have c_1 := mt (nI_leI (by omega) (by omega)).mpr c_1
        refine lv_lload_n hx hb dX4_outWeighed_33 rfl (lv_at hl 3 rfl) ?_
        refine lv_aload_n hx hb dX4_outWeighed_34 rfl (lv_at hl 0 rfl) ?_
        refine k_get hx hb hts hown hK hP iw_X4_outWeighed_X4 rfl 0 11 fm_X4_outWeighed_33 (by decide) rfl rfl dX4_outWeighed_35 ?_
        refine lv_iconst (v := nI 5) hx hb dX4_outWeighed_38 (by decide) ?_
        refine lv_iload_n hx hb dX4_outWeighed_39 rfl (lv_at hl 1 rfl) ?_
        refine lv_imul hx hb dX4_outWeighed_40 ?_
        refine k_ei (y := nI (i * 5)) ((pk_mul _ _).trans (congrArg nI (Nat.mul_comm _ _))) ?_
        refine lv_iload hx hb dX4_outWeighed_41 (lv_at hl 4 rfl) ?_
        refine lv_iadd hx hb dX4_outWeighed_43 ?_
        refine k_ei (y := nI (i * 5 + (ni + k))) (nI_add _ _) ?_
        refine k_lald hx hb hK hP 2 rfl (by omega) (by omega) dX4_outWeighed_44 ?_
        refine lv_aload_n hx hb dX4_outWeighed_45 rfl (lv_at hl 0 rfl) ?_
        refine k_get hx hb hts hown hK hP iw_X4_outWeighed_X4 rfl 0 9 fm_X4_outWeighed_27 (by decide) rfl rfl dX4_outWeighed_46 ?_
        refine lv_iconst (v := nI 4) hx hb dX4_outWeighed_49 (by decide) ?_
        refine lv_iload_n hx hb dX4_outWeighed_50 rfl (lv_at hl 2 rfl) ?_
        refine lv_imul hx hb dX4_outWeighed_51 ?_
        refine k_ei (y := nI (w * 4)) ((pk_mul _ _).trans (congrArg nI (Nat.mul_comm _ _))) ?_
        refine lv_iload hx hb dX4_outWeighed_52 (lv_at hl 4 rfl) ?_
        refine lv_iadd hx hb dX4_outWeighed_54 ?_
        refine k_ei (y := nI (w * 4 + (ni + k))) (nI_add _ _) ?_
        refine k_iald hx hb hK hP 1 rfl (by omega) (by omega) dX4_outWeighed_55 ?_
        refine lv_i2l hx hb dX4_outWeighed_56 rfl ?_
        refine lv_lmul hx hb dX4_outWeighed_57 ?_
        refine lv_ladd hx hb dX4_outWeighed_58 ?_
        refine lv_lstore_n (lv' := [(3, .long ((outsW sd nu i w 4 ni k) + ((sd (i * 5 + (ni + k))) * ((nu (w * 4 + (ni + k))).toInt64)))), (0, .ref (md 0)), (1, .int (nI i)), (2, .int (nI w)), (5, .int (nI (ni + k)))]) hx hb dX4_outWeighed_59 rfl hl (by decide) rfl (fun ls hl => ?_)
        refine lv_iinc (v := nI (ni + k + 1)) (lv' := [(5, .int (nI (ni + k + 1))), (3, .long ((outsW sd nu i w 4 ni k) + ((sd (i * 5 + (ni + k))) * ((nu (w * 4 + (ni + k))).toInt64)))), (0, .ref (md 0)), (1, .int (nI i)), (2, .int (nI w))]) hx hb dX4_outWeighed_60 hl (k := 4) rfl (nI_inc1 (ni + k)) (by decide) rfl (fun ls hl => ?_)
        refine lv_goto (tgt := 19) hx hb dX4_outWeighed_63 (by decide) ?_
        exact ih_19 (k + 1) (by omega) (by omega) _ _ hP hD hS ls (lv_sub hl [2, 3, 4, 1, 0] rfl)
  exact lp_19 (no - 0 + 1) 0 (by omega) (by omega) _ _ hP hD hS ls (lv_sub hl [2, 3, 4, 1, 0] rfl)
theorem hdn_X4_outWeighed : yX4_outWeighed.cls ≠ "java/lang/invoke/MethodHandle" ∧ yX4_outWeighed.cls ≠ "java/lang/invoke/VarHandle" ∧ (parseMethodDescriptor yX4_outWeighed.desc).map (fun d => d.parameters.length) = some 2 := by decide +kernel
theorem cw_X4_isBest_131_0_0 {R : Room} {s : State} {args : Array Value} (hts : ∀ w ∈ wsX4_isBest, w.before args s = true) (hN : nsW s) (hR : 0 + 1 ≤ R.frames ∧ 8 + (6 + 11) + 0 ≤ R.locals) : CallW R s args RX4 RX4 131 yX4_outWeighed cX4_outWeighed 6 (some .long) wsX4_outWeighed { frames := 0, cells := 0, slots := 0, locals := 0 } 0 0 2 := cwV 2 hts gX4_isBest_X4_outWeighed rfl rfl rfl ⟨rfl, hdn_X4_outWeighed⟩ hR
theorem iw_X4_isBest_X4 : ∀ w ∈ wsX40, w ∈ wsX4_isBest := fun w h => List.mem_cons_of_mem _ (List.mem_append_right _ h)
theorem fm_X4_isBest_125 : Cond.fieldLink RX4 125 "EdgeBenchModel" "below" "J" ∈ wsX4_isBest := List.mem_of_getElem? (i := 1) rfl
theorem fm_X4_isBest_121 : Cond.fieldLink RX4 121 "EdgeBenchModel" "top" "J" ∈ wsX4_isBest := List.mem_of_getElem? (i := 2) rfl
theorem hdn_X4_inWeighed : yX4_inWeighed.cls ≠ "java/lang/invoke/MethodHandle" ∧ yX4_inWeighed.cls ≠ "java/lang/invoke/VarHandle" ∧ (parseMethodDescriptor yX4_inWeighed.desc).map (fun d => d.parameters.length) = some 2 := by decide +kernel
theorem cw_X4_isBest_128_0_0 {R : Room} {s : State} {args : Array Value} (hts : ∀ w ∈ wsX4_isBest, w.before args s = true) (hN : nsW s) (hR : 0 + 1 ≤ R.frames ∧ 8 + (6 + 11) + 0 ≤ R.locals) : CallW R s args RX4 RX4 128 yX4_inWeighed cX4_inWeighed 6 (some .long) wsX4_inWeighed { frames := 0, cells := 0, slots := 0, locals := 0 } 0 0 2 := cwV 2 hts gX4_isBest_X4_inWeighed rfl rfl rfl ⟨rfl, hdn_X4_inWeighed⟩ hR
set_option maxHeartbeats 20000000 in
set_option maxRecDepth 100000 in
theorem c_X4_isBest (l : Launch) (g : Gt) (md : Nat → Nat) (xt : Int32) (mi : Nat) (mo : Nat) (mw : Nat) (ni : Nat) (no : Nat) (ns : Nat) (nb : Nat) (wd : Nat) (tp : Int64) (bl : Int64) (wt : Int64) (wb : Int64) (nu : Nat → Int32) (sd : Nat → Int64) (i : Nat) (w : Nat) (hi2 : i < 2600) (hw : w < 12) (hni : ni ≤ 2) (hno : no ≤ 2) : CI l yX4_isBest wsX4_isBest { frames := 1, cells := 0, slots := 0, locals := 25 } g [.ref (md 0), .int (nI i), .int (nI w)] [(md 0, .inr (4, [.int (xt), .int (nI mi), .int (nI mo), .int (nI mw), .ref (md 1), .ref (md 2), .ref (md 3), .int (nI ni), .int (nI no), .ref (md 4), .ref (md 5), .ref (md 6), .int (nI ns), .ref (md 7), .ref (md 8), .int (nI nb), .int (nI wd), .ref (md 9), .long (tp), .long (bl), .long (wt), .long (wb)])), (md 4, aI g 48 nu), (md 6, aJ g 13000 sd)] (fun zr (zu : Unit) => zr = bI (decide (outsW sd nu i w 4 ni no * bl = tp * insW sd nu i w ni))) (fun (zu : Unit) => [(md 0, .inr (4, [.int (xt), .int (nI mi), .int (nI mo), .int (nI mw), .ref (md 1), .ref (md 2), .ref (md 3), .int (nI ni), .int (nI no), .ref (md 4), .ref (md 5), .ref (md 6), .int (nI ns), .ref (md 7), .ref (md 8), .int (nI nb), .int (nI wd), .ref (md 9), .long (tp), .long (bl), .long (wt), .long (wb)])), (md 4, aI g 48 nu), (md 6, aJ g 13000 sd)]) 0 0 := by
  refine ent_z (cc := cX4_isBest) (maxL := 3) (by decide) rfl (Nat.le_of_ble_eq_true rfl) ?_
  intro p e s m below meth c A args Q hE ret ls hl
  obtain ⟨hx, hb, hml, hown, hts, hnm, hA, hP, hD, hK, hN⟩ := hE
  have hS : va_S A s.heap s.heap [] := va_S.rf
  have hl : lv_has ls 3 [(0, .ref (md 0)), (1, .int (nI i)), (2, .int (nI w))] := hl
  have hP : va_P g.1 vwCl [(md 0, .inr (4, [.int (xt), .int (nI mi), .int (nI mo), .int (nI mw), .ref (md 1), .ref (md 2), .ref (md 3), .int (nI ni), .int (nI no), .ref (md 4), .ref (md 5), .ref (md 6), .int (nI ns), .ref (md 7), .ref (md 8), .int (nI nb), .int (nI wd), .ref (md 9), .long (tp), .long (bl), .long (wt), .long (wb)])), (md 4, aI g 48 nu), (md 6, aJ g 13000 sd)] s.heap := hP
  refine lv_aload_n hx hb dX4_isBest_0 rfl (lv_at hl 0 rfl) ?_
  refine lv_iload_n hx hb dX4_isBest_1 rfl (lv_at hl 1 rfl) ?_
  refine lv_iload_n hx hb dX4_isBest_2 rfl (lv_at hl 2 rfl) ?_
  refine go_l (wc := [(md 0, .inr (4, [.int (xt), .int (nI mi), .int (nI mo), .int (nI mw), .ref (md 1), .ref (md 2), .ref (md 3), .int (nI ni), .int (nI no), .ref (md 4), .ref (md 5), .ref (md 6), .int (nI ns), .ref (md 7), .ref (md 8), .int (nI nb), .int (nI wd), .ref (md 9), .long (tp), .long (bl), .long (wt), .long (wb)])), (md 4, aI g 48 nu), (md 6, aJ g 13000 sd)]) (wr := []) hP hD hS hA [0, 1, 2] [] rfl rfl rfl rfl (by decide) (fun hPc hDc => rn_V (As := [.int (nI i), .int (nI w)]) (rest := []) ⟨hx, hb, hml, hown, hts⟩ ((c_X4_outWeighed l g md xt mi mo mw ni no ns nb wd tp bl wt wb nu sd i w (by omega) (by omega) (by omega) (by omega)) _) (cw_X4_isBest_131_0_0 hts hN ⟨Nat.le_of_ble_eq_true rfl, Nat.le_of_ble_eq_true rfl⟩) hK hN hPc hDc 0 rfl rfl rfl rfl hl.1 (Nat.le_of_ble_eq_true rfl) dX4_isBest_3 ⟨Nat.le_of_ble_eq_true rfl, Nat.le_of_ble_eq_true rfl⟩) ?_
  intro r_1 u_2 H locs h_3 hP hD hS
  have hP : va_P g.1 vwCl [(md 0, .inr (4, [.int (xt), .int (nI mi), .int (nI mo), .int (nI mw), .ref (md 1), .ref (md 2), .ref (md 3), .int (nI ni), .int (nI no), .ref (md 4), .ref (md 5), .ref (md 6), .int (nI ns), .ref (md 7), .ref (md 8), .int (nI nb), .int (nI wd), .ref (md 9), .long (tp), .long (bl), .long (wt), .long (wb)])), (md 4, aI g 48 nu), (md 6, aJ g 13000 sd)] H := hP.sub [0, 1, 2] rfl
  have hD : va_D A [(md 0, .inr (4, [.int (xt), .int (nI mi), .int (nI mo), .int (nI mw), .ref (md 1), .ref (md 2), .ref (md 3), .int (nI ni), .int (nI no), .ref (md 4), .ref (md 5), .ref (md 6), .int (nI ns), .ref (md 7), .ref (md 8), .int (nI nb), .int (nI wd), .ref (md 9), .long (tp), .long (bl), .long (wt), .long (wb)])), (md 4, aI g 48 nu), (md 6, aJ g 13000 sd)] := hD.sub [0, 1, 2] rfl rfl
  have h_3 : r_1 = outsW sd nu i w 4 ni no := h_3
  subst h_3
  refine lv_aload_n hx hb dX4_isBest_6 rfl (lv_at hl 0 rfl) ?_
  refine k_get hx hb hts hown hK hP iw_X4_isBest_X4 rfl 0 19 fm_X4_isBest_125 (by decide) rfl rfl dX4_isBest_7 ?_
  refine lv_lmul hx hb dX4_isBest_10 ?_
  refine lv_aload_n hx hb dX4_isBest_11 rfl (lv_at hl 0 rfl) ?_
  refine k_get hx hb hts hown hK hP iw_X4_isBest_X4 rfl 0 18 fm_X4_isBest_121 (by decide) rfl rfl dX4_isBest_12 ?_
  refine lv_aload_n hx hb dX4_isBest_15 rfl (lv_at hl 0 rfl) ?_
  refine lv_iload_n hx hb dX4_isBest_16 rfl (lv_at hl 1 rfl) ?_
  refine lv_iload_n hx hb dX4_isBest_17 rfl (lv_at hl 2 rfl) ?_
  refine go_l (wc := [(md 0, .inr (4, [.int (xt), .int (nI mi), .int (nI mo), .int (nI mw), .ref (md 1), .ref (md 2), .ref (md 3), .int (nI ni), .int (nI no), .ref (md 4), .ref (md 5), .ref (md 6), .int (nI ns), .ref (md 7), .ref (md 8), .int (nI nb), .int (nI wd), .ref (md 9), .long (tp), .long (bl), .long (wt), .long (wb)])), (md 4, aI g 48 nu), (md 6, aJ g 13000 sd)]) (wr := []) hP hD hS hA [0, 1, 2] [] rfl rfl rfl rfl (by decide) (fun hPc hDc => rn_V (As := [.int (nI i), .int (nI w)]) (rest := [.long (tp), .long ((outsW sd nu i w 4 ni no) * bl)]) ⟨hx, hb, hml, hown, hts⟩ ((c_X4_inWeighed l g md xt mi mo mw ni no ns nb wd tp bl wt wb nu sd i w (by omega) (by omega) (by omega)) _) (cw_X4_isBest_128_0_0 hts hN ⟨Nat.le_of_ble_eq_true rfl, Nat.le_of_ble_eq_true rfl⟩) hK hN hPc hDc 0 rfl rfl rfl rfl hl.1 (Nat.le_of_ble_eq_true rfl) dX4_isBest_18 ⟨Nat.le_of_ble_eq_true rfl, Nat.le_of_ble_eq_true rfl⟩) ?_
  intro r_4 u_5 H locs h_6 hP hD hS
  have hP : va_P g.1 vwCl [(md 0, .inr (4, [.int (xt), .int (nI mi), .int (nI mo), .int (nI mw), .ref (md 1), .ref (md 2), .ref (md 3), .int (nI ni), .int (nI no), .ref (md 4), .ref (md 5), .ref (md 6), .int (nI ns), .ref (md 7), .ref (md 8), .int (nI nb), .int (nI wd), .ref (md 9), .long (tp), .long (bl), .long (wt), .long (wb)])), (md 4, aI g 48 nu), (md 6, aJ g 13000 sd)] H := hP.sub [0, 1, 2] rfl
  have hD : va_D A [(md 0, .inr (4, [.int (xt), .int (nI mi), .int (nI mo), .int (nI mw), .ref (md 1), .ref (md 2), .ref (md 3), .int (nI ni), .int (nI no), .ref (md 4), .ref (md 5), .ref (md 6), .int (nI ns), .ref (md 7), .ref (md 8), .int (nI nb), .int (nI wd), .ref (md 9), .long (tp), .long (bl), .long (wt), .long (wb)])), (md 4, aI g 48 nu), (md 6, aJ g 13000 sd)] := hD.sub [0, 1, 2] rfl rfl
  have h_6 : r_4 = insW sd nu i w ni := h_6
  subst h_6
  refine lv_lmul hx hb dX4_isBest_21 ?_
  refine W.lcmp hx hb dX4_isBest_22 ?_
  refine lv_if_ne (tgt := 30) hx hb dX4_isBest_23 (by decide) (fun c_7 => ?_) (fun c_7 => ?_)
  · skip
    have c_7 := mt (lc_eq _ _).mpr c_7
    have hres : decide (outsW sd nu i w 4 ni no * bl = tp * insW sd nu i w ni) = false := decide_eq_false c_7
    refine lv_iconst (v := nI 0) hx hb dX4_isBest_30 (by decide) ?_
    exact ret dX4_isBest_31 () (by rw [hres]; rfl) (by decide) hP hD hS
  · skip
    have c_7 := (lc_eq _ _).mp c_7
    have hres : decide (outsW sd nu i w 4 ni no * bl = tp * insW sd nu i w ni) = true := decide_eq_true c_7
    refine lv_iconst (v := nI 1) hx hb dX4_isBest_26 (by decide) ?_
    refine lv_goto (tgt := 31) hx hb dX4_isBest_27 (by decide) ?_
    exact ret dX4_isBest_31 () (by rw [hres]; rfl) (by decide) hP hD hS
theorem iw_X4_isAlike_X4 : ∀ w ∈ wsX40, w ∈ wsX4_isAlike := fun w h => List.mem_cons_of_mem _ (List.mem_append_right _ h)
theorem fm_X4_isAlike_64 : Cond.fieldLink RX4 64 "EdgeBenchModel" "nIn" "I" ∈ wsX4_isAlike := List.mem_of_getElem? (i := 1) rfl
theorem fm_X4_isAlike_67 : Cond.fieldLink RX4 67 "EdgeBenchModel" "nOut" "I" ∈ wsX4_isAlike := List.mem_of_getElem? (i := 2) rfl
theorem fm_X4_isAlike_27 : Cond.fieldLink RX4 27 "EdgeBenchModel" "number" "[I" ∈ wsX4_isAlike := by decide +kernel
set_option maxHeartbeats 20000000 in
set_option maxRecDepth 100000 in
theorem c_X4_isAlike (l : Launch) (g : Gt) (md : Nat → Nat) (xt : Int32) (mi : Nat) (mo : Nat) (mw : Nat) (ni : Nat) (no : Nat) (ns : Nat) (nb : Nat) (wd : Nat) (tp : Int64) (bl : Int64) (wt : Int64) (wb : Int64) (nu : Nat → Int32) (a : Nat) (b : Nat) (ha : a < 12) (hb2 : b < 12) (hni : ni ≤ 2) (hno : no ≤ 2) : CI l yX4_isAlike wsX4_isAlike { frames := 0, cells := 0, slots := 0, locals := 0 } g [.ref (md 0), .int (nI a), .int (nI b)] [(md 0, .inr (4, [.int (xt), .int (nI mi), .int (nI mo), .int (nI mw), .ref (md 1), .ref (md 2), .ref (md 3), .int (nI ni), .int (nI no), .ref (md 4), .ref (md 5), .ref (md 6), .int (nI ns), .ref (md 7), .ref (md 8), .int (nI nb), .int (nI wd), .ref (md 9), .long (tp), .long (bl), .long (wt), .long (wb)])), (md 4, aI g 48 nu)] (fun zr (zu : Unit) => zr = bI (alkB nu a b 0 (ni + no) true)) (fun (zu : Unit) => [(md 0, .inr (4, [.int (xt), .int (nI mi), .int (nI mo), .int (nI mw), .ref (md 1), .ref (md 2), .ref (md 3), .int (nI ni), .int (nI no), .ref (md 4), .ref (md 5), .ref (md 6), .int (nI ns), .ref (md 7), .ref (md 8), .int (nI nb), .int (nI wd), .ref (md 9), .long (tp), .long (bl), .long (wt), .long (wb)])), (md 4, aI g 48 nu)]) 0 0 := by
  refine ent_z (cc := cX4_isAlike) (maxL := 5) (by decide) rfl (Nat.le_of_ble_eq_true rfl) ?_
  intro p e s m below meth c A args Q hE ret ls hl
  obtain ⟨hx, hb, hml, hown, hts, hnm, hA, hP, hD, hK, hN⟩ := hE
  have hS : va_S A s.heap s.heap [] := va_S.rf
  have hl : lv_has ls 5 [(0, .ref (md 0)), (1, .int (nI a)), (2, .int (nI b))] := hl
  have hP : va_P g.1 vwCl [(md 0, .inr (4, [.int (xt), .int (nI mi), .int (nI mo), .int (nI mw), .ref (md 1), .ref (md 2), .ref (md 3), .int (nI ni), .int (nI no), .ref (md 4), .ref (md 5), .ref (md 6), .int (nI ns), .ref (md 7), .ref (md 8), .int (nI nb), .int (nI wd), .ref (md 9), .long (tp), .long (bl), .long (wt), .long (wb)])), (md 4, aI g 48 nu)] s.heap := hP
  refine lv_iconst (v := nI 1) hx hb dX4_isAlike_0 (by decide) ?_
  refine lv_istore_n (lv' := [(3, .int (bI true)), (0, .ref (md 0)), (1, .int (nI a)), (2, .int (nI b))]) hx hb dX4_isAlike_1 rfl hl (by decide) rfl (fun ls hl => ?_)
  refine lv_iconst (v := nI 0) hx hb dX4_isAlike_2 (by decide) ?_
  refine lv_istore (lv' := [(4, .int (nI 0)), (3, .int (bI true)), (0, .ref (md 0)), (1, .int (nI a)), (2, .int (nI b))]) hx hb dX4_isAlike_3 hl (by decide) rfl (fun ls hl => ?_)
  have lp_5 : ∀ (n : Nat) (k : Nat) (q : Bool), ni + no - k < n → k ≤ 4 → alkB nu a b 0 (ni + no) true = alkB nu a b k (ni + no - k) q → ∀ (H : Heap) (locs : List Loc), va_P g.1 vwCl [(md 0, .inr (4, [.int (xt), .int (nI mi), .int (nI mo), .int (nI mw), .ref (md 1), .ref (md 2), .ref (md 3), .int (nI ni), .int (nI no), .ref (md 4), .ref (md 5), .ref (md 6), .int (nI ns), .ref (md 7), .ref (md 8), .int (nI nb), .int (nI wd), .ref (md 9), .long (tp), .long (bl), .long (wt), .long (wb)])), (md 4, aI g 48 nu)] H → va_D A [(md 0, .inr (4, [.int (xt), .int (nI mi), .int (nI mo), .int (nI mw), .ref (md 1), .ref (md 2), .ref (md 3), .int (nI ni), .int (nI no), .ref (md 4), .ref (md 5), .ref (md 6), .int (nI ns), .ref (md 7), .ref (md 8), .int (nI nb), .int (nI wd), .ref (md 9), .long (tp), .long (bl), .long (wt), .long (wb)])), (md 4, aI g 48 nu)] → va_S A s.heap H locs → ∀ ls : Array Slot, lv_has ls 5 [(0, .ref (md 0)), (1, .int (nI a)), (2, .int (nI b)), (3, .int (bI q)), (4, .int (nI k))] → W p l e { frames := 0, cells := 0, slots := 0, locals := 0 } s m args below meth c H locs 0 0 Q (F0 m 5 ls []) := by
    intro n
    induction n with
    | zero =>
      intro k q hms
      omega
    | succ n ih_5 =>
      intro k q hms_5 hk hv H locs hP hD hS ls hl
      refine lv_iload hx hb dX4_isAlike_5 (lv_at hl 4 rfl) ?_
      refine lv_aload_n hx hb dX4_isAlike_7 rfl (lv_at hl 0 rfl) ?_
      refine k_get hx hb hts hown hK hP iw_X4_isAlike_X4 rfl 0 7 fm_X4_isAlike_64 (by decide) rfl rfl dX4_isAlike_8 ?_
      refine lv_aload_n hx hb dX4_isAlike_11 rfl (lv_at hl 0 rfl) ?_
      refine k_get hx hb hts hown hK hP iw_X4_isAlike_X4 rfl 0 8 fm_X4_isAlike_67 (by decide) rfl rfl dX4_isAlike_12 ?_
      refine lv_iadd hx hb dX4_isAlike_15 ?_
      refine k_ei (y := nI (ni + no)) (nI_add _ _) ?_
      refine lv_icmp_ge (tgt := 60) hx hb dX4_isAlike_16 (by decide) (fun c_1 => ?_) (fun c_1 => ?_)
      · skip
        have c_1 := (nI_leI (by omega) (by omega)).mp c_1
        refine lv_iload_n hx hb dX4_isAlike_60 rfl (lv_at hl 3 rfl) ?_
        exact ret dX4_isAlike_61 () (by rw [hv, show ni + no - k = 0 by omega]; rfl) (bI01 _) hP hD hS
      · skip
        have c_1 := mt (nI_leI (by omega) (by omega)).mpr c_1
        refine lv_iload_n hx hb dX4_isAlike_19 rfl (lv_at hl 3 rfl) ?_
        have lp_53 : ∀ (qq : Bool), alkB nu a b 0 (ni + no) true = alkB nu a b (k + 1) (ni + no - (k + 1)) qq → ∀ (H : Heap) (locs : List Loc), va_P g.1 vwCl [(md 0, .inr (4, [.int (xt), .int (nI mi), .int (nI mo), .int (nI mw), .ref (md 1), .ref (md 2), .ref (md 3), .int (nI ni), .int (nI no), .ref (md 4), .ref (md 5), .ref (md 6), .int (nI ns), .ref (md 7), .ref (md 8), .int (nI nb), .int (nI wd), .ref (md 9), .long (tp), .long (bl), .long (wt), .long (wb)])), (md 4, aI g 48 nu)] H → va_D A [(md 0, .inr (4, [.int (xt), .int (nI mi), .int (nI mo), .int (nI mw), .ref (md 1), .ref (md 2), .ref (md 3), .int (nI ni), .int (nI no), .ref (md 4), .ref (md 5), .ref (md 6), .int (nI ns), .ref (md 7), .ref (md 8), .int (nI nb), .int (nI wd), .ref (md 9), .long (tp), .long (bl), .long (wt), .long (wb)])), (md 4, aI g 48 nu)] → va_S A s.heap H locs → ∀ ls : Array Slot, lv_has ls 5 [(0, .ref (md 0)), (1, .int (nI a)), (2, .int (nI b)), (4, .int (nI k))] → W p l e { frames := 0, cells := 0, slots := 0, locals := 0 } s m args below meth c H locs 0 0 Q (F0 m 53 ls [.int (bI qq)]) := by
          intro qq hv2 H locs hP hD hS ls hl
          refine lv_istore_n (lv' := [(3, .int (bI qq)), (0, .ref (md 0)), (1, .int (nI a)), (2, .int (nI b)), (4, .int (nI k))]) hx hb dX4_isAlike_53 rfl hl (by decide) rfl (fun ls hl => ?_)
          refine lv_iinc (v := nI (k + 1)) (lv' := [(4, .int (nI (k + 1))), (3, .int (bI qq)), (0, .ref (md 0)), (1, .int (nI a)), (2, .int (nI b))]) hx hb dX4_isAlike_54 hl (k := 4) rfl (nI_inc1 k) (by decide) rfl (fun ls hl => ?_)
          refine lv_goto (tgt := 5) hx hb dX4_isAlike_57 (by decide) ?_
          exact ih_5 (k + 1) qq (by omega) (by omega) hv2 _ _ hP hD hS ls (lv_sub hl [2, 3, 4, 1, 0] rfl)
        refine lv_if_eq (tgt := 52) hx hb dX4_isAlike_20 (by decide) (fun c_2 => ?_) (fun c_2 => ?_)
        · skip
          have hq := bI_eq0.mp c_2
          have hvq : alkB nu a b 0 (ni + no) true = alkB nu a b (k + 1) (ni + no - (k + 1)) false := by rw [hv, show ni + no - k = (ni + no - (k + 1)) + 1 by omega, alkB, hq]; rfl
          refine lv_iconst (v := nI 0) hx hb dX4_isAlike_52 (by decide) ?_
          refine k_ei (y := bI false) (rfl) ?_
          exact lp_53 false hvq _ _ hP hD hS ls (lv_sub hl [0, 1, 2, 4] rfl)
        · skip
          have hq := bI_ne0.mp c_2
          refine lv_aload_n hx hb dX4_isAlike_23 rfl (lv_at hl 0 rfl) ?_
          refine k_get hx hb hts hown hK hP iw_X4_isAlike_X4 rfl 0 9 fm_X4_isAlike_27 (by decide) rfl rfl dX4_isAlike_24 ?_
          refine lv_iconst (v := nI 4) hx hb dX4_isAlike_27 (by decide) ?_
          refine lv_iload_n hx hb dX4_isAlike_28 rfl (lv_at hl 1 rfl) ?_
          refine lv_imul hx hb dX4_isAlike_29 ?_
          refine k_ei (y := nI (a * 4)) ((pk_mul _ _).trans (congrArg nI (Nat.mul_comm _ _))) ?_
          refine lv_iload hx hb dX4_isAlike_30 (lv_at hl 4 rfl) ?_
          refine lv_iadd hx hb dX4_isAlike_32 ?_
          refine k_ei (y := nI (a * 4 + k)) (nI_add _ _) ?_
          refine k_iald hx hb hK hP 1 rfl (by omega) (by omega) dX4_isAlike_33 ?_
          refine lv_aload_n hx hb dX4_isAlike_34 rfl (lv_at hl 0 rfl) ?_
          refine k_get hx hb hts hown hK hP iw_X4_isAlike_X4 rfl 0 9 fm_X4_isAlike_27 (by decide) rfl rfl dX4_isAlike_35 ?_
          refine lv_iconst (v := nI 4) hx hb dX4_isAlike_38 (by decide) ?_
          refine lv_iload_n hx hb dX4_isAlike_39 rfl (lv_at hl 2 rfl) ?_
          refine lv_imul hx hb dX4_isAlike_40 ?_
          refine k_ei (y := nI (b * 4)) ((pk_mul _ _).trans (congrArg nI (Nat.mul_comm _ _))) ?_
          refine lv_iload hx hb dX4_isAlike_41 (lv_at hl 4 rfl) ?_
          refine lv_iadd hx hb dX4_isAlike_43 ?_
          refine k_ei (y := nI (b * 4 + k)) (nI_add _ _) ?_
          refine k_iald hx hb hK hP 1 rfl (by omega) (by omega) dX4_isAlike_44 ?_
          refine lv_icmp_ne (tgt := 52) hx hb dX4_isAlike_45 (by decide) (fun c_3 => ?_) (fun c_3 => ?_)
          · skip
            have hvq : alkB nu a b 0 (ni + no) true = alkB nu a b (k + 1) (ni + no - (k + 1)) false := by rw [hv, show ni + no - k = (ni + no - (k + 1)) + 1 by omega, alkB, hq, decide_eq_false c_3]; rfl
            refine lv_iconst (v := nI 0) hx hb dX4_isAlike_52 (by decide) ?_
            refine k_ei (y := bI false) (rfl) ?_
            exact lp_53 false hvq _ _ hP hD hS ls (lv_sub hl [0, 1, 2, 4] rfl)
          · skip
            have hvq : alkB nu a b 0 (ni + no) true = alkB nu a b (k + 1) (ni + no - (k + 1)) true := by rw [hv, show ni + no - k = (ni + no - (k + 1)) + 1 by omega, alkB, hq, decide_eq_true c_3]; rfl
            refine lv_iconst (v := nI 1) hx hb dX4_isAlike_48 (by decide) ?_
            refine k_ei (y := bI true) (rfl) ?_
            refine lv_goto (tgt := 53) hx hb dX4_isAlike_49 (by decide) ?_
            exact lp_53 true hvq _ _ hP hD hS ls (lv_sub hl [0, 1, 2, 4] rfl)
  exact lp_5 (ni + no - 0 + 1) 0 true (by omega) (by omega) rfl _ _ hP hD hS ls (lv_sub hl [2, 3, 4, 1, 0] rfl)
