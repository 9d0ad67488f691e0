theorem absL_neg {x : Int64} (h : ¬ 0 ≤ x) : -x = absL x := by
  unfold absL
  rw [if_pos (by rw [i64_lt]; rw [i64_le] at h; omega)]
theorem absL_pos {x : Int64} (h : 0 ≤ x) : x = absL x := by
  unfold absL
  rw [if_neg (by rw [i64_lt]; rw [i64_le] at h; omega)]
def dvL (x d : Int64) : Int64 := if 1 < d then x / d else x
def frT (t b : Int64) : Int64 := dvL t (gcdL (absL t) (absL b) 100)
def frB (t b : Int64) : Int64 := dvL b (gcdL (absL t) (absL b) 100)
def oI (o : Option Nat) : Int32 := match o with
  | none => -1
  | some i => nI i
def fstP (pt : Nat → Int32) (i : Nat) : Nat → Option Nat
  | 0 => none
  | n + 1 => if pt i = 0 then fstP pt (i + 1) n else some i
def fitI (nu : Nat → Int32) (o w : Nat) (tp bt : Int64) (i : Nat) : Nat → Bool
  | 0 => true
  | n + 1 => if (nu (o * 4 + i)).toInt64 * bt ≤ (nu (w * 4 + i)).toInt64 * tp then fitI nu o w tp bt (i + 1) n else false
def fitO (nu : Nat → Int32) (o w i : Nat) : Nat → Bool
  | 0 => true
  | n + 1 => if nu (w * 4 + i) ≤ nu (o * 4 + i) then fitO nu o w (i + 1) n else false
def fitsB (nu : Nat → Int32) (ri ro o w : Nat) (tp bt : Int64) : Bool := fitI nu o w tp bt 0 ri && fitO nu o w ri ro
def mtch (nu pt : Nat → Int32) (ri ro w i : Nat) : Nat → Bool
  | 0 => true
  | n + 1 => if ¬ pt i = 0 ∧ fitsB nu ri ro i w 1 1 = true ∧ fitsB nu ri ro w i 1 1 = false then false else mtch nu pt ri ro w (i + 1) n
def lsB (tk mo tp bt : Int64) : Bool := decide (bt = 0 ∨ tk * bt < tp * mo)
def sbS (nu pt : Nat → Int32) (ri ro w o i : Nat) (tb : Int64 × Int64) : Int64 × Int64 :=
  if ¬ pt o = 0 ∧ 0 < (nu (w * 4 + i)).toInt64 ∧ lsB (nu (o * 4 + i)).toInt64 (nu (w * 4 + i)).toInt64 tb.1 tb.2 = true ∧ fitsB nu ri ro o w (nu (o * 4 + i)).toInt64 (nu (w * 4 + i)).toInt64 = true then ((nu (o * 4 + i)).toInt64, (nu (w * 4 + i)).toInt64) else tb
def sbI (nu pt : Nat → Int32) (ri ro w o i : Nat) : Nat → Int64 × Int64 → Int64 × Int64
  | 0, tb => tb
  | n + 1, tb => sbI nu pt ri ro w o (i + 1) n (sbS nu pt ri ro w o i tb)
def sbO (nu pt : Nat → Int32) (ri ro w o : Nat) : Nat → Int64 × Int64 → Int64 × Int64
  | 0, tb => tb
  | n + 1, tb => sbO nu pt ri ro w (o + 1) n (sbI nu pt ri ro w o 0 ri tb)
def shI (w ri k : Nat) : Nat → (Nat → Int32) → Nat → Int32
  | 0, nu => nu
  | n + 1, nu => shI w ri (k + 1) n (upd nu (w * 4 + 1 + k) (nu (w * 4 + (ri + k))))
def prV (nu : Nat → Int32) (ri : Nat) (p q : Int32) (w : Nat) : Int32 := if ri = 2 then p * nu (w * 4) + q * nu (w * 4 + 1) else p * nu (w * 4)
def prR (nu : Nat → Int32) (ri ro : Nat) (p q : Int32) (w : Nat) : Nat → Int32 := upd (shI w ri 0 ro nu) (w * 4) (prV nu ri p q w)
def prN (ri ro : Nat) (p q : Int32) (w : Nat) : Nat → (Nat → Int32) → Nat → Int32
  | 0, nu => nu
  | n + 1, nu => prN ri ro p q (w + 1) n (prR nu ri ro p q w)
set_option maxHeartbeats 4000000 in
set_option maxRecDepth 100000 in
theorem c_X3_commonDivisor (l : Launch) (g : Gt) (one : Int64) (two : Int64) : CL l yX3_commonDivisor wsX3_commonDivisor { frames := 0, cells := 0, slots := 0, locals := 0 } g [.long (one), .long (two)] [] (fun zr (zu : Unit) => zr = gcdL (absL one) (absL two) 100) (fun (zu : Unit) => []) 0 0 := by
  refine ent_l (cc := cX3_commonDivisor) (maxL := 11) (by decide) rfl (Nat.le_of_ble_eq_true rfl) ?_
  intro p e s m below meth c A args Q hE ret ls hl
  obtain ⟨hx, hb, hml, hown, hts, hnm, hA, hP, hD, hK, hN⟩ := hE
  have hS : va_S A s.heap s.heap [] := va_S.rf
  have hl : lv_has ls 11 [(0, .long (one)), (2, .long (two))] := hl
  have hP : va_P g.1 vwCl [] s.heap := hP
  refine lv_lload_n hx hb dX3_commonDivisor_0 rfl (lv_at hl 0 rfl) ?_
  refine lv_lconst (v := 0) hx hb dX3_commonDivisor_1 (by decide) ?_
  refine W.lcmp hx hb dX3_commonDivisor_2 ?_
  have lp_12 : ∀ (H : Heap) (locs : List Loc), va_P g.1 vwCl [] H → va_D A [] → va_S A s.heap H locs → ∀ ls : Array Slot, lv_has ls 11 [(0, .long (one)), (2, .long (two))] → W p l e { frames := 0, cells := 0, slots := 0, locals := 0 } s m args below meth c H locs 0 0 Q (F0 m 12 ls [.long (absL one)]) := by
    intro   H locs hP hD hS ls hl
    refine lv_lstore (lv' := [(4, .long (absL one)), (0, .long (one)), (2, .long (two))]) hx hb dX3_commonDivisor_12 hl (by decide) rfl (fun ls hl => ?_)
    refine lv_lload_n hx hb dX3_commonDivisor_14 rfl (lv_at hl 2 rfl) ?_
    refine lv_lconst (v := 0) hx hb dX3_commonDivisor_15 (by decide) ?_
    refine W.lcmp hx hb dX3_commonDivisor_16 ?_
    have lp_26 : ∀ (H : Heap) (locs : List Loc), va_P g.1 vwCl [] H → va_D A [] → va_S A s.heap H locs → ∀ ls : Array Slot, lv_has ls 11 [(0, .long (one)), (2, .long (two)), (4, .long (absL one))] → W p l e { frames := 0, cells := 0, slots := 0, locals := 0 } s m args below meth c H locs 0 0 Q (F0 m 26 ls [.long (absL two)]) := by
      intro   H locs hP hD hS ls hl
      refine lv_lstore (lv' := [(6, .long (absL two)), (0, .long (one)), (2, .long (two)), (4, .long (absL one))]) hx hb dX3_commonDivisor_26 hl (by decide) rfl (fun ls hl => ?_)
      refine lv_iconst (v := nI 0) hx hb dX3_commonDivisor_28 (by decide) ?_
      refine lv_istore (lv' := [(8, .int (nI 0)), (6, .long (absL two)), (0, .long (one)), (2, .long (two)), (4, .long (absL one))]) hx hb dX3_commonDivisor_29 hl (by decide) rfl (fun ls hl => ?_)
      have lp_31 : ∀ (n : Nat) (a : Int64) (b : Int64) (k : Nat), 100 - k < n → k ≤ 100 → gcdL (absL one) (absL two) 100 = gcdL a b (100 - k) → ∀ (H : Heap) (locs : List Loc), va_P g.1 vwCl [] H → va_D A [] → va_S A s.heap H locs → ∀ ls : Array Slot, lv_has ls 11 [(0, .long (one)), (2, .long (two)), (4, .long (a)), (6, .long (b)), (8, .int (nI k))] → W p l e { frames := 0, cells := 0, slots := 0, locals := 0 } s m args below meth c H locs 0 0 Q (F0 m 31 ls []) := by
        intro n
        induction n with
        | zero =>
          intro a b k hms
          omega
        | succ n ih_31 =>
          intro a b k hms_31 hk hv H locs hP hD hS ls hl
          refine lv_iload hx hb dX3_commonDivisor_31 (lv_at hl 4 rfl) ?_
          refine lv_bipush (v := nI 100) hx hb dX3_commonDivisor_33 (by decide) ?_
          refine lv_icmp_ge (tgt := 66) hx hb dX3_commonDivisor_35 (by decide) (fun c_1 => ?_) (fun c_1 => ?_)
          · skip
            have c_1 := (nI_leI (by omega) (by omega)).mp c_1
            have hres : gcdL (absL one) (absL two) 100 = a := by rw [hv, show 100 - k = 0 by omega]; rfl
            refine lv_lload hx hb dX3_commonDivisor_66 (lv_at hl 2 rfl) ?_
            exact ret dX3_commonDivisor_68 () (hres.symm) hP hD hS
          · skip
            have c_1 := mt (nI_leI (by omega) (by omega)).mpr c_1
            refine lv_lload hx hb dX3_commonDivisor_38 (lv_at hl 3 rfl) ?_
            refine lv_lconst (v := 0) hx hb dX3_commonDivisor_40 (by decide) ?_
            refine W.lcmp hx hb dX3_commonDivisor_41 ?_
            refine lv_if_eq (tgt := 66) hx hb dX3_commonDivisor_42 (by decide) (fun c_2 => ?_) (fun c_2 => ?_)
            · skip
              have c_2 := (lc_eq _ _).mp c_2
              have hres : gcdL (absL one) (absL two) 100 = a := by rw [hv, show 100 - k = (100 - (k + 1)) + 1 by omega, gcdL, if_pos c_2]
              refine lv_lload hx hb dX3_commonDivisor_66 (lv_at hl 2 rfl) ?_
              exact ret dX3_commonDivisor_68 () (hres.symm) hP hD hS
            · skip
              have c_2 := mt (lc_eq _ _).mpr c_2
              have hnz := c_2
              refine lv_lload hx hb dX3_commonDivisor_45 (lv_at hl 2 rfl) ?_
              refine lv_lload hx hb dX3_commonDivisor_47 (lv_at hl 3 rfl) ?_
              refine lv_lrem hx hb dX3_commonDivisor_49 (hnz) ?_
              refine lv_lstore (lv' := [(9, .long (a - a / b * b)), (0, .long (one)), (2, .long (two)), (4, .long (a)), (6, .long (b)), (8, .int (nI k))]) hx hb dX3_commonDivisor_50 hl (by decide) rfl (fun ls hl => ?_)
              refine lv_lload hx hb dX3_commonDivisor_52 (lv_at hl 4 rfl) ?_
              refine lv_lstore (lv' := [(4, .long (b)), (9, .long (a - a / b * b)), (0, .long (one)), (2, .long (two)), (6, .long (b)), (8, .int (nI k))]) hx hb dX3_commonDivisor_54 hl (by decide) rfl (fun ls hl => ?_)
              refine lv_lload hx hb dX3_commonDivisor_56 (lv_at hl 1 rfl) ?_
              refine lv_lstore (lv' := [(6, .long (a - a / b * b)), (4, .long (b)), (9, .long (a - a / b * b)), (0, .long (one)), (2, .long (two)), (8, .int (nI k))]) hx hb dX3_commonDivisor_58 hl (by decide) rfl (fun ls hl => ?_)
              refine lv_iinc (v := nI (k + 1)) (lv' := [(8, .int (nI (k + 1))), (6, .long (a - a / b * b)), (4, .long (b)), (9, .long (a - a / b * b)), (0, .long (one)), (2, .long (two))]) hx hb dX3_commonDivisor_60 hl (k := 5) rfl (nI_inc1 k) (by decide) rfl (fun ls hl => ?_)
              refine lv_goto (tgt := 31) hx hb dX3_commonDivisor_63 (by decide) ?_
              exact ih_31 b (a - a / b * b) (k + 1) (by omega) (by omega) (by rw [hv, show 100 - k = (100 - (k + 1)) + 1 by omega, gcdL, if_neg hnz]) _ _ hP hD hS ls (lv_sub hl [4, 5, 2, 1, 0] rfl)
      exact lp_31 (100 - 0 + 1) (absL one) (absL two) 0 (by omega) (by omega) rfl _ _ hP hD hS ls (lv_sub hl [2, 3, 4, 1, 0] rfl)
    refine lv_if_ge (tgt := 25) hx hb dX3_commonDivisor_17 (by decide) (fun c_3 => ?_) (fun c_3 => ?_)
    · skip
      have c_3 := (lc_ge _ _).mp c_3
      have hs2 := c_3
      refine lv_lload_n hx hb dX3_commonDivisor_25 rfl (lv_at hl 2 rfl) ?_
      refine k_el (y := absL two) (absL_pos hs2) ?_
      exact lp_26   _ _ hP hD hS ls (lv_sub hl [1, 2, 0] rfl)
    · skip
      have c_3 := mt (lc_ge _ _).mpr c_3
      have hs2 := c_3
      refine lv_lload_n hx hb dX3_commonDivisor_20 rfl (lv_at hl 2 rfl) ?_
      refine lv_lneg hx hb dX3_commonDivisor_21 ?_
      refine k_el (y := absL two) (absL_neg hs2) ?_
      refine lv_goto (tgt := 26) hx hb dX3_commonDivisor_22 (by decide) ?_
      exact lp_26   _ _ hP hD hS ls (lv_sub hl [1, 2, 0] rfl)
  refine lv_if_ge (tgt := 11) hx hb dX3_commonDivisor_3 (by decide) (fun c_4 => ?_) (fun c_4 => ?_)
  · skip
    have c_4 := (lc_ge _ _).mp c_4
    have hs1 := c_4
    refine lv_lload_n hx hb dX3_commonDivisor_11 rfl (lv_at hl 0 rfl) ?_
    refine k_el (y := absL one) (absL_pos hs1) ?_
    exact lp_12   _ _ hP hD hS ls (lv_sub hl [0, 1] rfl)
  · skip
    have c_4 := mt (lc_ge _ _).mpr c_4
    have hs1 := c_4
    refine lv_lload_n hx hb dX3_commonDivisor_6 rfl (lv_at hl 0 rfl) ?_
    refine lv_lneg hx hb dX3_commonDivisor_7 ?_
    refine k_el (y := absL one) (absL_neg hs1) ?_
    refine lv_goto (tgt := 12) hx hb dX3_commonDivisor_8 (by decide) ?_
    exact lp_12   _ _ hP hD hS ls (lv_sub hl [0, 1] rfl)
theorem iw_X1_init_X1 : ∀ w ∈ wsX10, w ∈ wsX1_init := by decide +kernel
theorem fm_X1_init_13 : Cond.fieldLink RX1 13 "EdgeBench$Fraction" "top" "J" ∈ wsX1_init := by decide +kernel
theorem fm_X1_init_19 : Cond.fieldLink RX1 19 "EdgeBench$Fraction" "bottom" "J" ∈ wsX1_init := by decide +kernel
set_option maxHeartbeats 4000000 in
set_option maxRecDepth 100000 in
theorem c_X1_init (l : Launch) (g : Gt) (f0 : Nat) (x0 : Int64) (x1 : Int64) (tp : Int64) (bt : Int64) : CV l yX1_init wsX1_init { frames := 1, cells := 0, slots := 0, locals := 30 } g [.ref (f0), .long (tp), .long (bt)] [(f0, .inr (1, [.long (x0), .long (x1)]))] (fun (zu : Unit) => True) (fun (zu : Unit) => [(f0, .inr (1, [.long (frT tp bt), .long (frB tp bt)]))]) 0 0 := by
  refine ent_v (cc := cX1_init) (maxL := 7) (by decide) rfl (Nat.le_of_ble_eq_true rfl) ?_
  intro p e s m below meth c A args Q hE ret ls hl
  obtain ⟨hx, hb, hml, hown, hts, hnm, hA, hP, hD, hK, hN⟩ := hE
  have hS : va_S A s.heap s.heap [] := va_S.rf
  have hl : lv_has ls 7 [(0, .ref (f0)), (1, .long (tp)), (3, .long (bt))] := hl
  have hP : va_P g.1 vwCl [(f0, .inr (1, [.long (x0), .long (x1)]))] s.heap := hP
  refine lv_aload_n hx hb dX1_init_0 rfl (lv_at hl 0 rfl) ?_
  refine W.objInit hx hb hown (hts (.methodLink RX1 1 objectInit) (by decide +kernel)) (hts (.instanceMethod objectInit) (by decide +kernel)) (hts (.code objectInit ⟨#[0xb1]⟩ 1 none) (by decide +kernel)) rfl (by rw [hml]; exact hl.1) rfl dX1_init_1 (Nat.le_of_ble_eq_true rfl) (Nat.le_of_ble_eq_true rfl) ?_
  refine W.eq (g2 := F0 m 4 ls []) rfl ?_
  refine lv_lload_n hx hb dX1_init_4 rfl (lv_at hl 1 rfl) ?_
  refine lv_lload_n hx hb dX1_init_5 rfl (lv_at hl 2 rfl) ?_
  refine go_l (wc := []) (wr := [(f0, .inr (1, [.long (x0), .long (x1)]))]) hP hD hS hA [] [0] rfl rfl rfl rfl (by decide) (fun hPc hDc => rn_SN (As := [.long (tp), .long (bt)]) (rest := []) ⟨hx, hb, hml, hown, hts⟩ ((c_X3_commonDivisor l g tp bt ) _) (⟨va_cnB 2 hts gX1_init_X3_commonDivisor_n7 rfl rfl rfl (hN.2 _ (List.mem_of_getElem? (i := 7) rfl)) (hts _ (by decide +kernel)) (by decide +kernel) ⟨Nat.le_of_ble_eq_true rfl, Nat.le_of_ble_eq_true rfl⟩, hts _ (by decide +kernel), trivial⟩) hK hN hPc hDc rfl rfl hl.1 (Nat.le_of_ble_eq_true rfl) dX1_init_6 ⟨Nat.le_of_ble_eq_true rfl, Nat.le_of_ble_eq_true rfl⟩) ?_
  intro r_1 u_2 H locs h_3 hP hD hS
  have hP : va_P g.1 vwCl [(f0, .inr (1, [.long (x0), .long (x1)]))] H := hP.sub [0] rfl
  have hD : va_D A [(f0, .inr (1, [.long (x0), .long (x1)]))] := hD.sub [0] rfl rfl
  have h_3 : r_1 = gcdL (absL tp) (absL bt) 100 := h_3
  subst h_3
  refine lv_lstore (lv' := [(5, .long (gcdL (absL tp) (absL bt) 100)), (0, .ref (f0)), (1, .long (tp)), (3, .long (bt))]) hx hb dX1_init_9 hl (by decide) rfl (fun ls hl => ?_)
  refine lv_aload_n hx hb dX1_init_11 rfl (lv_at hl 1 rfl) ?_
  refine lv_lload hx hb dX1_init_12 (lv_at hl 0 rfl) ?_
  refine lv_lconst (v := 1) hx hb dX1_init_14 (by decide) ?_
  refine W.lcmp hx hb dX1_init_15 ?_
  have lp_27 : ∀ (H : Heap) (locs : List Loc), va_P g.1 vwCl [(f0, .inr (1, [.long (x0), .long (x1)]))] H → va_D A [(f0, .inr (1, [.long (x0), .long (x1)]))] → va_S A s.heap H locs → ∀ ls : Array Slot, lv_has ls 7 [(0, .ref (f0)), (1, .long (tp)), (3, .long (bt)), (5, .long (gcdL (absL tp) (absL bt) 100))] → W p l e { frames := 1, cells := 0, slots := 0, locals := 30 } s m args below meth c H locs 0 0 Q (F0 m 27 ls [.long (frT tp bt), .ref (f0)]) := by
    intro   H locs hP hD hS ls hl
    refine k_putF hx hb hts hown hK hP hD hS iw_X1_init_X1 rfl tyX1 tyX1_ok nmX1 hnm 0 0 fm_X1_init_13 (by decide) rfl rfl rfl rfl rfl rfl (Nat.le_of_ble_eq_true rfl) dX1_init_27 (fun H locs hP hD hS => ?_)
    have hP : va_P g.1 vwCl [(f0, .inr (1, [.long (frT tp bt), .long (x1)]))] H := hP
    have hD : va_D A [(f0, .inr (1, [.long (frT tp bt), .long (x1)]))] := hD
    refine lv_aload_n hx hb dX1_init_30 rfl (lv_at hl 0 rfl) ?_
    refine lv_lload hx hb dX1_init_31 (lv_at hl 3 rfl) ?_
    refine lv_lconst (v := 1) hx hb dX1_init_33 (by decide) ?_
    refine W.lcmp hx hb dX1_init_34 ?_
    refine lv_if_le (tgt := 45) hx hb dX1_init_35 (by decide) (fun c_4 => ?_) (fun c_4 => ?_)
    · skip
      have c_4 := (lc_le _ _).mp c_4
      have c_4 : ¬ 1 < gcdL (absL tp) (absL bt) 100 := by rw [i64_lt]; rw [i64_le] at c_4; omega
      refine lv_lload_n hx hb dX1_init_45 rfl (lv_at hl 2 rfl) ?_
      refine k_el (y := frB tp bt) (by rw [frB, dvL, if_neg c_4]) ?_
      refine k_putF hx hb hts hown hK hP hD hS iw_X1_init_X1 rfl tyX1 tyX1_ok nmX1 hnm 0 1 fm_X1_init_19 (by decide) rfl rfl rfl rfl rfl rfl (Nat.le_of_ble_eq_true rfl) dX1_init_46 (fun H locs hP hD hS => ?_)
      have hP : va_P g.1 vwCl [(f0, .inr (1, [.long (frT tp bt), .long (frB tp bt)]))] H := hP
      have hD : va_D A [(f0, .inr (1, [.long (frT tp bt), .long (frB tp bt)]))] := hD
      exact ret dX1_init_49 () (trivial) hP hD hS
    · skip
      have c_4 := mt (lc_le _ _).mpr c_4
      have c_4 : 1 < gcdL (absL tp) (absL bt) 100 := by rw [i64_lt]; rw [i64_le] at c_4; omega
      refine lv_lload_n hx hb dX1_init_38 rfl (lv_at hl 2 rfl) ?_
      refine lv_lload hx hb dX1_init_39 (lv_at hl 3 rfl) ?_
      refine lv_ldiv hx hb dX1_init_41 (fun q => absurd c_4 (by rw [q]; decide)) ?_
      refine k_el (y := frB tp bt) (by rw [frB, dvL, if_pos c_4]) ?_
      refine lv_goto (tgt := 46) hx hb dX1_init_42 (by decide) ?_
      refine k_putF hx hb hts hown hK hP hD hS iw_X1_init_X1 rfl tyX1 tyX1_ok nmX1 hnm 0 1 fm_X1_init_19 (by decide) rfl rfl rfl rfl rfl rfl (Nat.le_of_ble_eq_true rfl) dX1_init_46 (fun H locs hP hD hS => ?_)
      have hP : va_P g.1 vwCl [(f0, .inr (1, [.long (frT tp bt), .long (frB tp bt)]))] H := hP
      have hD : va_D A [(f0, .inr (1, [.long (frT tp bt), .long (frB tp bt)]))] := hD
      exact ret dX1_init_49 () (trivial) hP hD hS
  refine lv_if_le (tgt := 26) hx hb dX1_init_16 (by decide) (fun c_5 => ?_) (fun c_5 => ?_)
  · skip
    have c_5 := (lc_le _ _).mp c_5
    have c_4 : ¬ 1 < gcdL (absL tp) (absL bt) 100 := by rw [i64_lt]; rw [i64_le] at c_5; omega
    refine lv_lload_n hx hb dX1_init_26 rfl (lv_at hl 2 rfl) ?_
    refine k_el (y := frT tp bt) (by rw [frT, dvL, if_neg c_4]) ?_
    exact lp_27   _ _ hP hD hS ls (lv_sub hl [1, 2, 3, 0] rfl)
  · skip
    have c_5 := mt (lc_le _ _).mpr c_5
    have c_4 : 1 < gcdL (absL tp) (absL bt) 100 := by rw [i64_lt]; rw [i64_le] at c_5; omega
    refine lv_lload_n hx hb dX1_init_19 rfl (lv_at hl 2 rfl) ?_
    refine lv_lload hx hb dX1_init_20 (lv_at hl 0 rfl) ?_
    refine lv_ldiv hx hb dX1_init_22 (fun q => absurd c_4 (by rw [q]; decide)) ?_
    refine k_el (y := frT tp bt) (by rw [frT, dvL, if_pos c_4]) ?_
    refine lv_goto (tgt := 27) hx hb dX1_init_23 (by decide) ?_
    exact lp_27   _ _ hP hD hS ls (lv_sub hl [1, 2, 3, 0] rfl)
theorem iw_X1_isNone_X1 : ∀ w ∈ wsX10, w ∈ wsX1_isNone := by decide +kernel
theorem fm_X1_isNone_19 : Cond.fieldLink RX1 19 "EdgeBench$Fraction" "bottom" "J" ∈ wsX1_isNone := by decide +kernel
set_option maxHeartbeats 4000000 in
set_option maxRecDepth 100000 in
theorem c_X1_isNone (l : Launch) (g : Gt) (f0 : Nat) (x0 : Int64) (x1 : Int64) : CI l yX1_isNone wsX1_isNone { frames := 0, cells := 0, slots := 0, locals := 0 } g [.ref (f0)] [(f0, .inr (1, [.long (x0), .long (x1)]))] (fun zr (zu : Unit) => zr = bI (decide (x1 = 0))) (fun (zu : Unit) => [(f0, .inr (1, [.long (x0), .long (x1)]))]) 0 0 := by
  refine ent_z (cc := cX1_isNone) (maxL := 1) (by decide) rfl (Nat.le_of_ble_eq_true rfl) ?_
  intro p e s m below meth c A args Q hE ret ls hl
  obtain ⟨hx, hb, hml, hown, hts, hnm, hA, hP, hD, hK, hN⟩ := hE
  have hS : va_S A s.heap s.heap [] := va_S.rf
  have hl : lv_has ls 1 [(0, .ref (f0))] := hl
  have hP : va_P g.1 vwCl [(f0, .inr (1, [.long (x0), .long (x1)]))] s.heap := hP
  refine lv_aload_n hx hb dX1_isNone_0 rfl (lv_at hl 0 rfl) ?_
  refine k_get hx hb hts hown hK hP iw_X1_isNone_X1 rfl 0 1 fm_X1_isNone_19 (by decide) rfl rfl dX1_isNone_1 ?_
  refine lv_lconst (v := 0) hx hb dX1_isNone_4 (by decide) ?_
  refine W.lcmp hx hb dX1_isNone_5 ?_
  refine lv_if_ne (tgt := 13) hx hb dX1_isNone_6 (by decide) (fun c_1 => ?_) (fun c_1 => ?_)
  · skip
    have c_1 := mt (lc_eq _ _).mpr c_1
    have hres : decide (x1 = 0) = false := decide_eq_false c_1
    refine lv_iconst (v := nI 0) hx hb dX1_isNone_13 (by decide) ?_
    exact ret dX1_isNone_14 () (by rw [hres]; rfl) (by decide) hP hD hS
  · skip
    have c_1 := (lc_eq _ _).mp c_1
    have hres : decide (x1 = 0) = true := decide_eq_true c_1
    refine lv_iconst (v := nI 1) hx hb dX1_isNone_9 (by decide) ?_
    refine lv_goto (tgt := 14) hx hb dX1_isNone_10 (by decide) ?_
    exact ret dX1_isNone_14 () (by rw [hres]; rfl) (by decide) hP hD hS
theorem iw_X1_isLike_X1 : ∀ w ∈ wsX10, w ∈ wsX1_isLike := by decide +kernel
theorem fm_X1_isLike_13 : Cond.fieldLink RX1 13 "EdgeBench$Fraction" "top" "J" ∈ wsX1_isLike := by decide +kernel
theorem fm_X1_isLike_19 : Cond.fieldLink RX1 19 "EdgeBench$Fraction" "bottom" "J" ∈ wsX1_isLike := by decide +kernel
set_option maxHeartbeats 4000000 in
set_option maxRecDepth 100000 in
theorem c_X1_isLike (l : Launch) (g : Gt) (f0 : Nat) (x0 : Int64) (x1 : Int64) (f1 : Nat) (y0 : Int64) (y1 : Int64) : CI l yX1_isLike wsX1_isLike { frames := 0, cells := 0, slots := 0, locals := 0 } g [.ref (f0), .ref (f1)] [(f0, .inr (1, [.long (x0), .long (x1)])), (f1, .inr (1, [.long (y0), .long (y1)]))] (fun zr (zu : Unit) => zr = bI (decide (x0 = y0 ∧ x1 = y1))) (fun (zu : Unit) => [(f0, .inr (1, [.long (x0), .long (x1)])), (f1, .inr (1, [.long (y0), .long (y1)]))]) 0 0 := by
  refine ent_z (cc := cX1_isLike) (maxL := 2) (by decide) rfl (Nat.le_of_ble_eq_true rfl) ?_
  intro p e s m below meth c A args Q hE ret ls hl
  obtain ⟨hx, hb, hml, hown, hts, hnm, hA, hP, hD, hK, hN⟩ := hE
  have hS : va_S A s.heap s.heap [] := va_S.rf
  have hl : lv_has ls 2 [(0, .ref (f0)), (1, .ref (f1))] := hl
  have hP : va_P g.1 vwCl [(f0, .inr (1, [.long (x0), .long (x1)])), (f1, .inr (1, [.long (y0), .long (y1)]))] s.heap := hP
  refine lv_aload_n hx hb dX1_isLike_0 rfl (lv_at hl 0 rfl) ?_
  refine k_get hx hb hts hown hK hP iw_X1_isLike_X1 rfl 0 0 fm_X1_isLike_13 (by decide) rfl rfl dX1_isLike_1 ?_
  refine lv_aload_n hx hb dX1_isLike_4 rfl (lv_at hl 1 rfl) ?_
  refine k_get hx hb hts hown hK hP iw_X1_isLike_X1 rfl 1 0 fm_X1_isLike_13 (by decide) rfl rfl dX1_isLike_5 ?_
  refine W.lcmp hx hb dX1_isLike_8 ?_
  refine lv_if_ne (tgt := 28) hx hb dX1_isLike_9 (by decide) (fun c_1 => ?_) (fun c_1 => ?_)
  · skip
    have c_1 := mt (lc_eq _ _).mpr c_1
    have hres : decide (x0 = y0 ∧ x1 = y1) = false := decide_eq_false (fun q => c_1 q.1)
    refine lv_iconst (v := nI 0) hx hb dX1_isLike_28 (by decide) ?_
    exact ret dX1_isLike_29 () (by rw [hres]; rfl) (by decide) hP hD hS
  · skip
    have c_1 := (lc_eq _ _).mp c_1
    have hq := c_1
    refine lv_aload_n hx hb dX1_isLike_12 rfl (lv_at hl 0 rfl) ?_
    refine k_get hx hb hts hown hK hP iw_X1_isLike_X1 rfl 0 1 fm_X1_isLike_19 (by decide) rfl rfl dX1_isLike_13 ?_
    refine lv_aload_n hx hb dX1_isLike_16 rfl (lv_at hl 1 rfl) ?_
    refine k_get hx hb hts hown hK hP iw_X1_isLike_X1 rfl 1 1 fm_X1_isLike_19 (by decide) rfl rfl dX1_isLike_17 ?_
    refine W.lcmp hx hb dX1_isLike_20 ?_
    refine lv_if_ne (tgt := 28) hx hb dX1_isLike_21 (by decide) (fun c_2 => ?_) (fun c_2 => ?_)
    · skip
      have c_2 := mt (lc_eq _ _).mpr c_2
      have hres : decide (x0 = y0 ∧ x1 = y1) = false := decide_eq_false (fun q => c_2 q.2)
      refine lv_iconst (v := nI 0) hx hb dX1_isLike_28 (by decide) ?_
      exact ret dX1_isLike_29 () (by rw [hres]; rfl) (by decide) hP hD hS
    · skip
      have c_2 := (lc_eq _ _).mp c_2
      have hres : decide (x0 = y0 ∧ x1 = y1) = true := decide_eq_true ⟨hq, c_2⟩
      refine lv_iconst (v := nI 1) hx hb dX1_isLike_24 (by decide) ?_
      refine lv_goto (tgt := 29) hx hb dX1_isLike_25 (by decide) ?_
      exact ret dX1_isLike_29 () (by rw [hres]; rfl) (by decide) hP hD hS
theorem iw_X2_firstPart_X2 : ∀ w ∈ wsX20, w ∈ wsX2_firstPart := by decide +kernel
theorem fm_X2_firstPart_15 : Cond.fieldLink RX2 15 "EdgeBench$Rows" "part" "[Z" ∈ wsX2_firstPart := by decide +kernel
set_option maxHeartbeats 4000000 in
set_option maxRecDepth 100000 in
theorem c_X2_firstPart (l : Launch) (g : Gt) (r0 : Nat) (rn : Nat) (rp : Nat) (ri : Nat) (ro : Nat) (nu : Nat → Int32) (pt : Nat → Int32) : CI l yX2_firstPart wsX2_firstPart { frames := 0, cells := 0, slots := 0, locals := 0 } g [.ref (r0)] [(r0, .inr (2, [.int (nI ri), .int (nI ro), .ref (rn), .ref (rp)])), (rn, aI g 48 nu), (rp, aZ g 12 pt)] (fun zr (zu : Unit) => zr = oI (fstP pt 0 12)) (fun (zu : Unit) => [(r0, .inr (2, [.int (nI ri), .int (nI ro), .ref (rn), .ref (rp)])), (rn, aI g 48 nu), (rp, aZ g 12 pt)]) 0 0 := by
  refine ent_i (cc := cX2_firstPart) (maxL := 2) (by decide) rfl (Nat.le_of_ble_eq_true rfl) ?_
  intro p e s m below meth c A args Q hE ret ls hl
  obtain ⟨hx, hb, hml, hown, hts, hnm, hA, hP, hD, hK, hN⟩ := hE
  have hS : va_S A s.heap s.heap [] := va_S.rf
  have hl : lv_has ls 2 [(0, .ref (r0))] := hl
  have hP : va_P g.1 vwCl [(r0, .inr (2, [.int (nI ri), .int (nI ro), .ref (rn), .ref (rp)])), (rn, aI g 48 nu), (rp, aZ g 12 pt)] s.heap := hP
  refine lv_iconst (v := nI 0) hx hb dX2_firstPart_0 (by decide) ?_
  refine lv_istore_n (lv' := [(1, .int (nI 0)), (0, .ref (r0))]) hx hb dX2_firstPart_1 rfl hl (by decide) rfl (fun ls hl => ?_)
  have lp_2 : ∀ (n : Nat) (k : Nat), 12 - k < n → k ≤ 12 → fstP pt 0 12 = fstP pt k (12 - k) → ∀ (H : Heap) (locs : List Loc), va_P g.1 vwCl [(r0, .inr (2, [.int (nI ri), .int (nI ro), .ref (rn), .ref (rp)])), (rn, aI g 48 nu), (rp, aZ g 12 pt)] H → va_D A [(r0, .inr (2, [.int (nI ri), .int (nI ro), .ref (rn), .ref (rp)])), (rn, aI g 48 nu), (rp, aZ g 12 pt)] → va_S A s.heap H locs → ∀ ls : Array Slot, lv_has ls 2 [(0, .ref (r0)), (1, .int (nI k))] → W p l e { frames := 0, cells := 0, slots := 0, locals := 0 } s m args below meth c H locs 0 0 Q (F0 m 2 ls []) := by
    intro n
    induction n with
    | zero =>
      intro k hms
      omega
    | succ n ih_2 =>
      intro k hms_2 hk hv H locs hP hD hS ls hl
      refine lv_iload_n hx hb dX2_firstPart_2 rfl (lv_at hl 1 rfl) ?_
      refine lv_bipush (v := nI 12) hx hb dX2_firstPart_3 (by decide) ?_
      refine lv_icmp_ge (tgt := 25) hx hb dX2_firstPart_5 (by decide) (fun c_1 => ?_) (fun c_1 => ?_)
      · skip
        have c_1 := (nI_leI (by omega) (by omega)).mp c_1
        refine lv_iconst (v := -1) hx hb dX2_firstPart_25 (by decide) ?_
        exact ret dX2_firstPart_26 () (by rw [hv, show 12 - k = 0 by omega]; rfl) hP hD hS
      · skip
        have c_1 := mt (nI_leI (by omega) (by omega)).mpr c_1
        refine lv_aload_n hx hb dX2_firstPart_8 rfl (lv_at hl 0 rfl) ?_
        refine k_get hx hb hts hown hK hP iw_X2_firstPart_X2 rfl 0 3 fm_X2_firstPart_15 (by decide) rfl rfl dX2_firstPart_9 ?_
        refine lv_iload_n hx hb dX2_firstPart_12 rfl (lv_at hl 1 rfl) ?_
        refine k_zald hx hb hK hP 2 rfl (by omega) (by omega) dX2_firstPart_13 ?_
        refine lv_if_eq (tgt := 19) hx hb dX2_firstPart_14 (by decide) (fun c_2 => ?_) (fun c_2 => ?_)
        · skip
          have hc := c_2
          refine lv_iinc (v := nI (k + 1)) (lv' := [(1, .int (nI (k + 1))), (0, .ref (r0))]) hx hb dX2_firstPart_19 hl (k := 1) rfl (nI_inc1 k) (by decide) rfl (fun ls hl => ?_)
          refine lv_goto (tgt := 2) hx hb dX2_firstPart_22 (by decide) ?_
          exact ih_2 (k + 1) (by omega) (by omega) (by rw [hv, show 12 - k = (12 - (k + 1)) + 1 by omega, fstP, if_pos hc]) _ _ hP hD hS ls (lv_sub hl [1, 0] rfl)
        · skip
          have hc := c_2
          refine lv_iload_n hx hb dX2_firstPart_17 rfl (lv_at hl 1 rfl) ?_
          exact ret dX2_firstPart_18 () (by rw [hv, show 12 - k = (12 - (k + 1)) + 1 by omega, fstP, if_neg hc]; rfl) hP hD hS
  exact lp_2 (12 - 0 + 1) 0 (by omega) (by omega) rfl _ _ hP hD hS ls (lv_sub hl [1, 0] rfl)
theorem iw_X2_takes_X2 : ∀ w ∈ wsX20, w ∈ wsX2_takes := by decide +kernel
theorem fm_X2_takes_9 : Cond.fieldLink RX2 9 "EdgeBench$Rows" "number" "[I" ∈ wsX2_takes := by decide +kernel
theorem fm_X2_takes_19 : Cond.fieldLink RX2 19 "EdgeBench$Rows" "ins" "I" ∈ wsX2_takes := by decide +kernel
set_option maxHeartbeats 4000000 in
set_option maxRecDepth 100000 in
theorem c_X2_takes (l : Launch) (g : Gt) (r0 : Nat) (rn : Nat) (rp : Nat) (ri : Nat) (ro : Nat) (nu : Nat → Int32) (pt : Nat → Int32) (w : Nat) (hw : w < 12) (hri : ri ≤ 2) (hro : ro ≤ 2) : CI l yX2_takes wsX2_takes { frames := 1, cells := 0, slots := 0, locals := 24 } g [.ref (r0), .int (nI w)] [(r0, .inr (2, [.int (nI ri), .int (nI ro), .ref (rn), .ref (rp)])), (rn, aI g 48 nu), (rp, aZ g 12 pt)] (fun zr (zu : Unit) => zr = bI (!allZ nu (w * 4 + 0) (ri - 0))) (fun (zu : Unit) => [(r0, .inr (2, [.int (nI ri), .int (nI ro), .ref (rn), .ref (rp)])), (rn, aI g 48 nu), (rp, aZ g 12 pt)]) 0 0 := by
  refine ent_z (cc := cX2_takes) (maxL := 2) (by decide) rfl (Nat.le_of_ble_eq_true rfl) ?_
  intro p e s m below meth c A args Q hE ret ls hl
  obtain ⟨hx, hb, hml, hown, hts, hnm, hA, hP, hD, hK, hN⟩ := hE
  have hS : va_S A s.heap s.heap [] := va_S.rf
  have hl : lv_has ls 2 [(0, .ref (r0)), (1, .int (nI w))] := hl
  have hP : va_P g.1 vwCl [(r0, .inr (2, [.int (nI ri), .int (nI ro), .ref (rn), .ref (rp)])), (rn, aI g 48 nu), (rp, aZ g 12 pt)] s.heap := hP
  refine lv_aload_n hx hb dX2_takes_0 rfl (lv_at hl 0 rfl) ?_
  refine k_get hx hb hts hown hK hP iw_X2_takes_X2 rfl 0 2 fm_X2_takes_9 (by decide) rfl rfl dX2_takes_1 ?_
  refine lv_iload_n hx hb dX2_takes_4 rfl (lv_at hl 1 rfl) ?_
  refine lv_iconst (v := nI 0) hx hb dX2_takes_5 (by decide) ?_
  refine lv_aload_n hx hb dX2_takes_6 rfl (lv_at hl 0 rfl) ?_
  refine k_get hx hb hts hown hK hP iw_X2_takes_X2 rfl 0 0 fm_X2_takes_19 (by decide) rfl rfl dX2_takes_7 ?_
  refine go_i (wc := [(rn, aI g 48 nu)]) (wr := [(r0, .inr (2, [.int (nI ri), .int (nI ro), .ref (rn), .ref (rp)])), (rp, aZ g 12 pt)]) hP hD hS hA [1] [0, 2] rfl rfl rfl rfl (by decide) (fun hPc hDc => rn_SN (As := [.ref (rn), .int (nI w), .int (nI 0), .int (nI ri)]) (rest := []) ⟨hx, hb, hml, hown, hts⟩ ((c_X3_areZero l g rn nu w 0 ri (by omega) (by omega) (by omega)) _) (⟨va_cnB 4 hts gX2_takes_X3_areZero_n32 rfl rfl rfl (hN.2 _ (List.mem_of_getElem? (i := 3) rfl)) (hts _ (by decide +kernel)) (by decide +kernel) ⟨Nat.le_of_ble_eq_true rfl, Nat.le_of_ble_eq_true rfl⟩, hts _ (by decide +kernel), trivial⟩) hK hN hPc hDc rfl rfl hl.1 (Nat.le_of_ble_eq_true rfl) dX2_takes_10 ⟨Nat.le_of_ble_eq_true rfl, Nat.le_of_ble_eq_true rfl⟩) ?_
  intro r_1 u_2 H locs h_3 hP hD hS
  have hP : va_P g.1 vwCl [(r0, .inr (2, [.int (nI ri), .int (nI ro), .ref (rn), .ref (rp)])), (rn, aI g 48 nu), (rp, aZ g 12 pt)] H := hP.sub [0, 2, 1] rfl
  have hD : va_D A [(r0, .inr (2, [.int (nI ri), .int (nI ro), .ref (rn), .ref (rp)])), (rn, aI g 48 nu), (rp, aZ g 12 pt)] := hD.sub [0, 2, 1] rfl rfl
  have h_3 : r_1 = bI (allZ nu (w * 4 + 0) (ri - 0)) := h_3
  subst h_3
  refine lv_if_ne (tgt := 20) hx hb dX2_takes_13 (by decide) (fun c_4 => ?_) (fun c_4 => ?_)
  · skip
    have hres := bI_ne0.mp c_4
    refine lv_iconst (v := nI 0) hx hb dX2_takes_20 (by decide) ?_
    exact ret dX2_takes_21 () (by rw [hres]; rfl) (by decide) hP hD hS
  · skip
    have hres := bI_eq0.mp c_4
    refine lv_iconst (v := nI 1) hx hb dX2_takes_16 (by decide) ?_
    refine lv_goto (tgt := 21) hx hb dX2_takes_17 (by decide) ?_
    exact ret dX2_takes_21 () (by rw [hres]; rfl) (by decide) hP hD hS
theorem iw_X2_gives_X2 : ∀ w ∈ wsX20, w ∈ wsX2_gives := by decide +kernel
theorem fm_X2_gives_9 : Cond.fieldLink RX2 9 "EdgeBench$Rows" "number" "[I" ∈ wsX2_gives := by decide +kernel
theorem fm_X2_gives_19 : Cond.fieldLink RX2 19 "EdgeBench$Rows" "ins" "I" ∈ wsX2_gives := by decide +kernel
theorem fm_X2_gives_23 : Cond.fieldLink RX2 23 "EdgeBench$Rows" "outs" "I" ∈ wsX2_gives := by decide +kernel
set_option maxHeartbeats 4000000 in
set_option maxRecDepth 100000 in
theorem c_X2_gives (l : Launch) (g : Gt) (r0 : Nat) (rn : Nat) (rp : Nat) (ri : Nat) (ro : Nat) (nu : Nat → Int32) (pt : Nat → Int32) (w : Nat) (hw : w < 12) (hri : ri ≤ 2) (hro : ro ≤ 2) : CI l yX2_gives wsX2_gives { frames := 1, cells := 0, slots := 0, locals := 24 } g [.ref (r0), .int (nI w)] [(r0, .inr (2, [.int (nI ri), .int (nI ro), .ref (rn), .ref (rp)])), (rn, aI g 48 nu), (rp, aZ g 12 pt)] (fun zr (zu : Unit) => zr = bI (!allZ nu (w * 4 + ri) (ri + ro - ri))) (fun (zu : Unit) => [(r0, .inr (2, [.int (nI ri), .int (nI ro), .ref (rn), .ref (rp)])), (rn, aI g 48 nu), (rp, aZ g 12 pt)]) 0 0 := by
  refine ent_z (cc := cX2_gives) (maxL := 2) (by decide) rfl (Nat.le_of_ble_eq_true rfl) ?_
  intro p e s m below meth c A args Q hE ret ls hl
  obtain ⟨hx, hb, hml, hown, hts, hnm, hA, hP, hD, hK, hN⟩ := hE
  have hS : va_S A s.heap s.heap [] := va_S.rf
  have hl : lv_has ls 2 [(0, .ref (r0)), (1, .int (nI w))] := hl
  have hP : va_P g.1 vwCl [(r0, .inr (2, [.int (nI ri), .int (nI ro), .ref (rn), .ref (rp)])), (rn, aI g 48 nu), (rp, aZ g 12 pt)] s.heap := hP
  refine lv_aload_n hx hb dX2_gives_0 rfl (lv_at hl 0 rfl) ?_
  refine k_get hx hb hts hown hK hP iw_X2_gives_X2 rfl 0 2 fm_X2_gives_9 (by decide) rfl rfl dX2_gives_1 ?_
  refine lv_iload_n hx hb dX2_gives_4 rfl (lv_at hl 1 rfl) ?_
  refine lv_aload_n hx hb dX2_gives_5 rfl (lv_at hl 0 rfl) ?_
  refine k_get hx hb hts hown hK hP iw_X2_gives_X2 rfl 0 0 fm_X2_gives_19 (by decide) rfl rfl dX2_gives_6 ?_
  refine lv_aload_n hx hb dX2_gives_9 rfl (lv_at hl 0 rfl) ?_
  refine k_get hx hb hts hown hK hP iw_X2_gives_X2 rfl 0 0 fm_X2_gives_19 (by decide) rfl rfl dX2_gives_10 ?_
  refine lv_aload_n hx hb dX2_gives_13 rfl (lv_at hl 0 rfl) ?_
  refine k_get hx hb hts hown hK hP iw_X2_gives_X2 rfl 0 1 fm_X2_gives_23 (by decide) rfl rfl dX2_gives_14 ?_
  refine lv_iadd hx hb dX2_gives_17 ?_
  refine k_ei (y := nI (ri + ro)) (nI_add _ _) ?_
  refine go_i (wc := [(rn, aI g 48 nu)]) (wr := [(r0, .inr (2, [.int (nI ri), .int (nI ro), .ref (rn), .ref (rp)])), (rp, aZ g 12 pt)]) hP hD hS hA [1] [0, 2] rfl rfl rfl rfl (by decide) (fun hPc hDc => rn_SN (As := [.ref (rn), .int (nI w), .int (nI ri), .int (nI (ri + ro))]) (rest := []) ⟨hx, hb, hml, hown, hts⟩ ((c_X3_areZero l g rn nu w ri (ri + ro) (by omega) (by omega) (by omega)) _) (⟨va_cnB 4 hts gX2_gives_X3_areZero_n32 rfl rfl rfl (hN.2 _ (List.mem_of_getElem? (i := 3) rfl)) (hts _ (by decide +kernel)) (by decide +kernel) ⟨Nat.le_of_ble_eq_true rfl, Nat.le_of_ble_eq_true rfl⟩, hts _ (by decide +kernel), trivial⟩) hK hN hPc hDc rfl rfl hl.1 (Nat.le_of_ble_eq_true rfl) dX2_gives_18 ⟨Nat.le_of_ble_eq_true rfl, Nat.le_of_ble_eq_true rfl⟩) ?_
  intro r_1 u_2 H locs h_3 hP hD hS
  have hP : va_P g.1 vwCl [(r0, .inr (2, [.int (nI ri), .int (nI ro), .ref (rn), .ref (rp)])), (rn, aI g 48 nu), (rp, aZ g 12 pt)] H := hP.sub [0, 2, 1] rfl
  have hD : va_D A [(r0, .inr (2, [.int (nI ri), .int (nI ro), .ref (rn), .ref (rp)])), (rn, aI g 48 nu), (rp, aZ g 12 pt)] := hD.sub [0, 2, 1] rfl rfl
  have h_3 : r_1 = bI (allZ nu (w * 4 + ri) ((ri + ro) - ri)) := h_3
  subst h_3
  refine lv_if_ne (tgt := 28) hx hb dX2_gives_21 (by decide) (fun c_4 => ?_) (fun c_4 => ?_)
  · skip
    have hres := bI_ne0.mp c_4
    refine lv_iconst (v := nI 0) hx hb dX2_gives_28 (by decide) ?_
    exact ret dX2_gives_29 () (by rw [hres]; rfl) (by decide) hP hD hS
  · skip
    have hres := bI_eq0.mp c_4
    refine lv_iconst (v := nI 1) hx hb dX2_gives_24 (by decide) ?_
    refine lv_goto (tgt := 29) hx hb dX2_gives_25 (by decide) ?_
    exact ret dX2_gives_29 () (by rw [hres]; rfl) (by decide) hP hD hS
theorem iw_X2_fits_X2 : ∀ w ∈ wsX20, w ∈ wsX2_fits := by decide +kernel
theorem fm_X2_fits_19 : Cond.fieldLink RX2 19 "EdgeBench$Rows" "ins" "I" ∈ wsX2_fits := by decide +kernel
theorem fm_X2_fits_23 : Cond.fieldLink RX2 23 "EdgeBench$Rows" "outs" "I" ∈ wsX2_fits := by decide +kernel
set_option maxHeartbeats 4000000 in
set_option maxRecDepth 100000 in
theorem c_X2_fits (l : Launch) (g : Gt) (r0 : Nat) (rn : Nat) (rp : Nat) (ri : Nat) (ro : Nat) (nu : Nat → Int32) (pt : Nat → Int32) (o : Nat) (w : Nat) (tp : Int64) (bt : Int64) (ho : o < 12) (hw : w < 12) (hri : ri ≤ 2) (hro : ro ≤ 2) : CI l yX2_fits wsX2_fits { frames := 1, cells := 0, slots := 0, locals := 22 } g [.ref (r0), .int (nI o), .int (nI w), .long (tp), .long (bt)] [(r0, .inr (2, [.int (nI ri), .int (nI ro), .ref (rn), .ref (rp)])), (rn, aI g 48 nu), (rp, aZ g 12 pt)] (fun zr (zu : Unit) => zr = bI (fitsB nu ri ro o w tp bt)) (fun (zu : Unit) => [(r0, .inr (2, [.int (nI ri), .int (nI ro), .ref (rn), .ref (rp)])), (rn, aI g 48 nu), (rp, aZ g 12 pt)]) 0 0 := by
  refine ent_z (cc := cX2_fits) (maxL := 8) (by decide) rfl (Nat.le_of_ble_eq_true rfl) ?_
  intro p e s m below meth c A args Q hE ret ls hl
  obtain ⟨hx, hb, hml, hown, hts, hnm, hA, hP, hD, hK, hN⟩ := hE
  have hS : va_S A s.heap s.heap [] := va_S.rf
  have hl : lv_has ls 8 [(0, .ref (r0)), (1, .int (nI o)), (2, .int (nI w)), (3, .long (tp)), (5, .long (bt))] := hl
  have hP : va_P g.1 vwCl [(r0, .inr (2, [.int (nI ri), .int (nI ro), .ref (rn), .ref (rp)])), (rn, aI g 48 nu), (rp, aZ g 12 pt)] s.heap := hP
  refine lv_iconst (v := nI 0) hx hb dX2_fits_0 (by decide) ?_
  refine lv_istore (lv' := [(7, .int (nI 0)), (0, .ref (r0)), (1, .int (nI o)), (2, .int (nI w)), (3, .long (tp)), (5, .long (bt))]) hx hb dX2_fits_1 hl (by decide) rfl (fun ls hl => ?_)
  have lp_3 : ∀ (n : Nat) (k : Nat), ri - k < n → k ≤ 2 → fitI nu o w tp bt 0 ri = fitI nu o w tp bt k (ri - k) → ∀ (H : Heap) (locs : List Loc), va_P g.1 vwCl [(r0, .inr (2, [.int (nI ri), .int (nI ro), .ref (rn), .ref (rp)])), (rn, aI g 48 nu), (rp, aZ g 12 pt)] H → va_D A [(r0, .inr (2, [.int (nI ri), .int (nI ro), .ref (rn), .ref (rp)])), (rn, aI g 48 nu), (rp, aZ g 12 pt)] → va_S A s.heap H locs → ∀ ls : Array Slot, lv_has ls 8 [(0, .ref (r0)), (1, .int (nI o)), (2, .int (nI w)), (3, .long (tp)), (5, .long (bt)), (7, .int (nI k))] → W p l e { frames := 1, cells := 0, slots := 0, locals := 22 } s m args below meth c H locs 0 0 Q (F0 m 3 ls []) := by
    intro n
    induction n with
    | zero =>
      intro k hms
      omega
    | succ n ih_3 =>
      intro k hms_3 hk hv H locs hP hD hS ls hl
      refine lv_iload hx hb dX2_fits_3 (lv_at hl 5 rfl) ?_
      refine lv_aload_n hx hb dX2_fits_5 rfl (lv_at hl 0 rfl) ?_
      refine k_get hx hb hts hown hK hP iw_X2_fits_X2 rfl 0 0 fm_X2_fits_19 (by decide) rfl rfl dX2_fits_6 ?_
      refine lv_icmp_ge (tgt := 45) hx hb dX2_fits_9 (by decide) (fun c_1 => ?_) (fun c_1 => ?_)
      · skip
        have c_1 := (nI_leI (by omega) (by omega)).mp c_1
        have hI : fitI nu o w tp bt 0 ri = true := by rw [hv, show ri - k = 0 by omega]; rfl
        refine lv_aload_n hx hb dX2_fits_45 rfl (lv_at hl 0 rfl) ?_
        refine k_get hx hb hts hown hK hP iw_X2_fits_X2 rfl 0 0 fm_X2_fits_19 (by decide) rfl rfl dX2_fits_46 ?_
        refine lv_istore (lv' := [(7, .int (nI ri)), (0, .ref (r0)), (1, .int (nI o)), (2, .int (nI w)), (3, .long (tp)), (5, .long (bt))]) hx hb dX2_fits_49 hl (by decide) rfl (fun ls hl => ?_)
        have lp_51 : ∀ (n : Nat) (k : Nat), ri + ro - k < n → k ≤ 4 → fitO nu o w ri ro = fitO nu o w k (ri + ro - k) → ∀ (H : Heap) (locs : List Loc), va_P g.1 vwCl [(r0, .inr (2, [.int (nI ri), .int (nI ro), .ref (rn), .ref (rp)])), (rn, aI g 48 nu), (rp, aZ g 12 pt)] H → va_D A [(r0, .inr (2, [.int (nI ri), .int (nI ro), .ref (rn), .ref (rp)])), (rn, aI g 48 nu), (rp, aZ g 12 pt)] → va_S A s.heap H locs → ∀ ls : Array Slot, lv_has ls 8 [(0, .ref (r0)), (1, .int (nI o)), (2, .int (nI w)), (3, .long (tp)), (5, .long (bt)), (7, .int (nI k))] → W p l e { frames := 1, cells := 0, slots := 0, locals := 22 } s m args below meth c H locs 0 0 Q (F0 m 51 ls []) := by
          intro n
          induction n with
          | zero =>
            intro k hms
            omega
          | succ n ih_51 =>
            intro k hms_51 hk hw2 H locs hP hD hS ls hl
            refine lv_iload hx hb dX2_fits_51 (lv_at hl 5 rfl) ?_
            refine lv_aload_n hx hb dX2_fits_53 rfl (lv_at hl 0 rfl) ?_
            refine k_get hx hb hts hown hK hP iw_X2_fits_X2 rfl 0 0 fm_X2_fits_19 (by decide) rfl rfl dX2_fits_54 ?_
            refine lv_aload_n hx hb dX2_fits_57 rfl (lv_at hl 0 rfl) ?_
            refine k_get hx hb hts hown hK hP iw_X2_fits_X2 rfl 0 1 fm_X2_fits_23 (by decide) rfl rfl dX2_fits_58 ?_
            refine lv_iadd hx hb dX2_fits_61 ?_
            refine k_ei (y := nI (ri + ro)) (nI_add _ _) ?_
            refine lv_icmp_ge (tgt := 90) hx hb dX2_fits_62 (by decide) (fun c_2 => ?_) (fun c_2 => ?_)
            · skip
              have c_2 := (nI_leI (by omega) (by omega)).mp c_2
              refine lv_iconst (v := nI 1) hx hb dX2_fits_90 (by decide) ?_
              exact ret dX2_fits_91 () (by rw [fitsB, hI, hw2, show ri + ro - k = 0 by omega]; rfl) (by decide) hP hD hS
            · skip
              have c_2 := mt (nI_leI (by omega) (by omega)).mpr c_2
              refine lv_aload_n hx hb dX2_fits_65 rfl (lv_at hl 0 rfl) ?_
              refine lv_iload_n hx hb dX2_fits_66 rfl (lv_at hl 1 rfl) ?_
              refine lv_iload hx hb dX2_fits_67 (lv_at hl 5 rfl) ?_
              refine go_i (wc := [(r0, .inr (2, [.int (nI ri), .int (nI ro), .ref (rn), .ref (rp)])), (rn, aI g 48 nu), (rp, aZ g 12 pt)]) (wr := []) hP hD hS hA [0, 1, 2] [] rfl rfl rfl rfl (by decide) (fun hPc hDc => rn_V (As := [.int (nI o), .int (nI k)]) (rest := []) ⟨hx, hb, hml, hown, hts⟩ ((c_X2_of l g r0 rn rp ri ro nu pt o k (by omega) (by omega)) _) (cwV 2 hts gX2_fits_X2_of rfl rfl rfl (by decide +kernel) ⟨Nat.le_of_ble_eq_true rfl, Nat.le_of_ble_eq_true rfl⟩) hK hN hPc hDc 0 rfl rfl rfl rfl hl.1 (Nat.le_of_ble_eq_true rfl) dX2_fits_69 ⟨Nat.le_of_ble_eq_true rfl, Nat.le_of_ble_eq_true rfl⟩) ?_
              intro r_3 u_4 H locs h_5 hP hD hS
              have hP : va_P g.1 vwCl [(r0, .inr (2, [.int (nI ri), .int (nI ro), .ref (rn), .ref (rp)])), (rn, aI g 48 nu), (rp, aZ g 12 pt)] H := hP.sub [0, 1, 2] rfl
              have hD : va_D A [(r0, .inr (2, [.int (nI ri), .int (nI ro), .ref (rn), .ref (rp)])), (rn, aI g 48 nu), (rp, aZ g 12 pt)] := hD.sub [0, 1, 2] rfl rfl
              have h_5 : r_3 = nu (o * 4 + k) := h_5
              subst h_5
              refine lv_aload_n hx hb dX2_fits_72 rfl (lv_at hl 0 rfl) ?_
              refine lv_iload_n hx hb dX2_fits_73 rfl (lv_at hl 2 rfl) ?_
              refine lv_iload hx hb dX2_fits_74 (lv_at hl 5 rfl) ?_
              refine go_i (wc := [(r0, .inr (2, [.int (nI ri), .int (nI ro), .ref (rn), .ref (rp)])), (rn, aI g 48 nu), (rp, aZ g 12 pt)]) (wr := []) hP hD hS hA [0, 1, 2] [] rfl rfl rfl rfl (by decide) (fun hPc hDc => rn_V (As := [.int (nI w), .int (nI k)]) (rest := [.int (nu (o * 4 + k))]) ⟨hx, hb, hml, hown, hts⟩ ((c_X2_of l g r0 rn rp ri ro nu pt w k (by omega) (by omega)) _) (cwV 2 hts gX2_fits_X2_of rfl rfl rfl (by decide +kernel) ⟨Nat.le_of_ble_eq_true rfl, Nat.le_of_ble_eq_true rfl⟩) hK hN hPc hDc 0 rfl rfl rfl rfl hl.1 (Nat.le_of_ble_eq_true rfl) dX2_fits_76 ⟨Nat.le_of_ble_eq_true rfl, Nat.le_of_ble_eq_true rfl⟩) ?_
              intro r_6 u_7 H locs h_8 hP hD hS
              have hP : va_P g.1 vwCl [(r0, .inr (2, [.int (nI ri), .int (nI ro), .ref (rn), .ref (rp)])), (rn, aI g 48 nu), (rp, aZ g 12 pt)] H := hP.sub [0, 1, 2] rfl
              have hD : va_D A [(r0, .inr (2, [.int (nI ri), .int (nI ro), .ref (rn), .ref (rp)])), (rn, aI g 48 nu), (rp, aZ g 12 pt)] := hD.sub [0, 1, 2] rfl rfl
              have h_8 : r_6 = nu (w * 4 + k) := h_8
              subst h_8
              refine lv_icmp_ge (tgt := 84) hx hb dX2_fits_79 (by decide) (fun c_9 => ?_) (fun c_9 => ?_)
              · skip
                have hc := c_9
                refine lv_iinc (v := nI (k + 1)) (lv' := [(7, .int (nI (k + 1))), (0, .ref (r0)), (1, .int (nI o)), (2, .int (nI w)), (3, .long (tp)), (5, .long (bt))]) hx hb dX2_fits_84 hl (k := 5) rfl (nI_inc1 k) (by decide) rfl (fun ls hl => ?_)
                refine lv_goto (tgt := 51) hx hb dX2_fits_87 (by decide) ?_
                exact ih_51 (k + 1) (by omega) (by omega) (by rw [hw2, show ri + ro - k = (ri + ro - (k + 1)) + 1 by omega, fitO, if_pos hc]) _ _ hP hD hS ls (lv_sub hl [1, 2, 3, 4, 5, 0] rfl)
              · skip
                have hc := c_9
                refine lv_iconst (v := nI 0) hx hb dX2_fits_82 (by decide) ?_
                exact ret dX2_fits_83 () (by rw [fitsB, hI, hw2, show ri + ro - k = (ri + ro - (k + 1)) + 1 by omega, fitO, if_neg hc]; rfl) (by decide) hP hD hS
        exact lp_51 (ri + ro - ri + 1) ri (by omega) (by omega) (by rw [show ri + ro - ri = ro by omega]) _ _ hP hD hS ls (lv_sub hl [1, 2, 3, 4, 5, 0] rfl)
      · skip
        have c_1 := mt (nI_leI (by omega) (by omega)).mpr c_1
        refine lv_aload_n hx hb dX2_fits_12 rfl (lv_at hl 0 rfl) ?_
        refine lv_iload_n hx hb dX2_fits_13 rfl (lv_at hl 1 rfl) ?_
        refine lv_iload hx hb dX2_fits_14 (lv_at hl 5 rfl) ?_
        refine go_i (wc := [(r0, .inr (2, [.int (nI ri), .int (nI ro), .ref (rn), .ref (rp)])), (rn, aI g 48 nu), (rp, aZ g 12 pt)]) (wr := []) hP hD hS hA [0, 1, 2] [] rfl rfl rfl rfl (by decide) (fun hPc hDc => rn_V (As := [.int (nI o), .int (nI k)]) (rest := []) ⟨hx, hb, hml, hown, hts⟩ ((c_X2_of l g r0 rn rp ri ro nu pt o k (by omega) (by omega)) _) (cwV 2 hts gX2_fits_X2_of rfl rfl rfl (by decide +kernel) ⟨Nat.le_of_ble_eq_true rfl, Nat.le_of_ble_eq_true rfl⟩) hK hN hPc hDc 0 rfl rfl rfl rfl hl.1 (Nat.le_of_ble_eq_true rfl) dX2_fits_16 ⟨Nat.le_of_ble_eq_true rfl, Nat.le_of_ble_eq_true rfl⟩) ?_
        intro r_10 u_11 H locs h_12 hP hD hS
        have hP : va_P g.1 vwCl [(r0, .inr (2, [.int (nI ri), .int (nI ro), .ref (rn), .ref (rp)])), (rn, aI g 48 nu), (rp, aZ g 12 pt)] H := hP.sub [0, 1, 2] rfl
        have hD : va_D A [(r0, .inr (2, [.int (nI ri), .int (nI ro), .ref (rn), .ref (rp)])), (rn, aI g 48 nu), (rp, aZ g 12 pt)] := hD.sub [0, 1, 2] rfl rfl
        have h_12 : r_10 = nu (o * 4 + k) := h_12
        subst h_12
        refine lv_i2l hx hb dX2_fits_19 rfl ?_
        refine lv_lload hx hb dX2_fits_20 (lv_at hl 4 rfl) ?_
        refine lv_lmul hx hb dX2_fits_22 ?_
        refine lv_aload_n hx hb dX2_fits_23 rfl (lv_at hl 0 rfl) ?_
        refine lv_iload_n hx hb dX2_fits_24 rfl (lv_at hl 2 rfl) ?_
        refine lv_iload hx hb dX2_fits_25 (lv_at hl 5 rfl) ?_
        refine go_i (wc := [(r0, .inr (2, [.int (nI ri), .int (nI ro), .ref (rn), .ref (rp)])), (rn, aI g 48 nu), (rp, aZ g 12 pt)]) (wr := []) hP hD hS hA [0, 1, 2] [] rfl rfl rfl rfl (by decide) (fun hPc hDc => rn_V (As := [.int (nI w), .int (nI k)]) (rest := [.long (((nu (o * 4 + k)).toInt64) * bt)]) ⟨hx, hb, hml, hown, hts⟩ ((c_X2_of l g r0 rn rp ri ro nu pt w k (by omega) (by omega)) _) (cwV 2 hts gX2_fits_X2_of rfl rfl rfl (by decide +kernel) ⟨Nat.le_of_ble_eq_true rfl, Nat.le_of_ble_eq_true rfl⟩) hK hN hPc hDc 0 rfl rfl rfl rfl hl.1 (Nat.le_of_ble_eq_true rfl) dX2_fits_27 ⟨Nat.le_of_ble_eq_true rfl, Nat.le_of_ble_eq_true rfl⟩) ?_
        intro r_13 u_14 H locs h_15 hP hD hS
        have hP : va_P g.1 vwCl [(r0, .inr (2, [.int (nI ri), .int (nI ro), .ref (rn), .ref (rp)])), (rn, aI g 48 nu), (rp, aZ g 12 pt)] H := hP.sub [0, 1, 2] rfl
        have hD : va_D A [(r0, .inr (2, [.int (nI ri), .int (nI ro), .ref (rn), .ref (rp)])), (rn, aI g 48 nu), (rp, aZ g 12 pt)] := hD.sub [0, 1, 2] rfl rfl
        have h_15 : r_13 = nu (w * 4 + k) := h_15
        subst h_15
        refine lv_i2l hx hb dX2_fits_30 rfl ?_
        refine lv_lload_n hx hb dX2_fits_31 rfl (lv_at hl 3 rfl) ?_
        refine lv_lmul hx hb dX2_fits_32 ?_
        refine W.lcmp hx hb dX2_fits_33 ?_
        refine lv_if_le (tgt := 39) hx hb dX2_fits_34 (by decide) (fun c_16 => ?_) (fun c_16 => ?_)
        · skip
          have c_16 := (lc_le _ _).mp c_16
          have hc := c_16
          refine lv_iinc (v := nI (k + 1)) (lv' := [(7, .int (nI (k + 1))), (0, .ref (r0)), (1, .int (nI o)), (2, .int (nI w)), (3, .long (tp)), (5, .long (bt))]) hx hb dX2_fits_39 hl (k := 5) rfl (nI_inc1 k) (by decide) rfl (fun ls hl => ?_)
          refine lv_goto (tgt := 3) hx hb dX2_fits_42 (by decide) ?_
          exact ih_3 (k + 1) (by omega) (by omega) (by rw [hv, show ri - k = (ri - (k + 1)) + 1 by omega, fitI, if_pos hc]) _ _ hP hD hS ls (lv_sub hl [1, 2, 3, 4, 5, 0] rfl)
        · skip
          have c_16 := mt (lc_le _ _).mpr c_16
          have hc := c_16
          refine lv_iconst (v := nI 0) hx hb dX2_fits_37 (by decide) ?_
          exact ret dX2_fits_38 () (by rw [fitsB, hv, show ri - k = (ri - (k + 1)) + 1 by omega, fitI, if_neg hc]; rfl) (by decide) hP hD hS
  exact lp_3 (ri - 0 + 1) 0 (by omega) (by omega) rfl _ _ hP hD hS ls (lv_sub hl [1, 2, 3, 4, 5, 0] rfl)
theorem iw_X2_isMatchedByItsLikeAlone_X2 : ∀ w ∈ wsX20, w ∈ wsX2_isMatchedByItsLikeAlone := by decide +kernel
theorem fm_X2_isMatchedByItsLikeAlone_15 : Cond.fieldLink RX2 15 "EdgeBench$Rows" "part" "[Z" ∈ wsX2_isMatchedByItsLikeAlone := by decide +kernel
set_option maxHeartbeats 4000000 in
set_option maxRecDepth 100000 in
theorem c_X2_isMatchedByItsLikeAlone (l : Launch) (g : Gt) (r0 : Nat) (rn : Nat) (rp : Nat) (ri : Nat) (ro : Nat) (nu : Nat → Int32) (pt : Nat → Int32) (w : Nat) (hw : w < 12) (hri : ri ≤ 2) (hro : ro ≤ 2) : CI l yX2_isMatchedByItsLikeAlone wsX2_isMatchedByItsLikeAlone { frames := 2, cells := 0, slots := 0, locals := 49 } g [.ref (r0), .int (nI w)] [(r0, .inr (2, [.int (nI ri), .int (nI ro), .ref (rn), .ref (rp)])), (rn, aI g 48 nu), (rp, aZ g 12 pt)] (fun zr (zu : Unit) => zr = bI (mtch nu pt ri ro w 0 12)) (fun (zu : Unit) => [(r0, .inr (2, [.int (nI ri), .int (nI ro), .ref (rn), .ref (rp)])), (rn, aI g 48 nu), (rp, aZ g 12 pt)]) 0 0 := by
  refine ent_z (cc := cX2_isMatchedByItsLikeAlone) (maxL := 3) (by decide) rfl (Nat.le_of_ble_eq_true rfl) ?_
  intro p e s m below meth c A args Q hE ret ls hl
  obtain ⟨hx, hb, hml, hown, hts, hnm, hA, hP, hD, hK, hN⟩ := hE
  have hS : va_S A s.heap s.heap [] := va_S.rf
  have hl : lv_has ls 3 [(0, .ref (r0)), (1, .int (nI w))] := hl
  have hP : va_P g.1 vwCl [(r0, .inr (2, [.int (nI ri), .int (nI ro), .ref (rn), .ref (rp)])), (rn, aI g 48 nu), (rp, aZ g 12 pt)] s.heap := hP
  refine lv_iconst (v := nI 0) hx hb dX2_isMatchedByItsLikeAlone_0 (by decide) ?_
  refine lv_istore_n (lv' := [(2, .int (nI 0)), (0, .ref (r0)), (1, .int (nI w))]) hx hb dX2_isMatchedByItsLikeAlone_1 rfl hl (by decide) rfl (fun ls hl => ?_)
  have lp_2 : ∀ (n : Nat) (k : Nat), 12 - k < n → k ≤ 12 → mtch nu pt ri ro w 0 12 = mtch nu pt ri ro w k (12 - k) → ∀ (H : Heap) (locs : List Loc), va_P g.1 vwCl [(r0, .inr (2, [.int (nI ri), .int (nI ro), .ref (rn), .ref (rp)])), (rn, aI g 48 nu), (rp, aZ g 12 pt)] H → va_D A [(r0, .inr (2, [.int (nI ri), .int (nI ro), .ref (rn), .ref (rp)])), (rn, aI g 48 nu), (rp, aZ g 12 pt)] → va_S A s.heap H locs → ∀ ls : Array Slot, lv_has ls 3 [(0, .ref (r0)), (1, .int (nI w)), (2, .int (nI k))] → W p l e { frames := 2, cells := 0, slots := 0, locals := 49 } s m args below meth c H locs 0 0 Q (F0 m 2 ls []) := by
    intro n
    induction n with
    | zero =>
      intro k hms
      omega
    | succ n ih_2 =>
      intro k hms_2 hk hv H locs hP hD hS ls hl
      refine lv_iload_n hx hb dX2_isMatchedByItsLikeAlone_2 rfl (lv_at hl 2 rfl) ?_
      refine lv_bipush (v := nI 12) hx hb dX2_isMatchedByItsLikeAlone_3 (by decide) ?_
      refine lv_icmp_ge (tgt := 47) hx hb dX2_isMatchedByItsLikeAlone_5 (by decide) (fun c_1 => ?_) (fun c_1 => ?_)
      · skip
        have c_1 := (nI_leI (by omega) (by omega)).mp c_1
        refine lv_iconst (v := nI 1) hx hb dX2_isMatchedByItsLikeAlone_47 (by decide) ?_
        exact ret dX2_isMatchedByItsLikeAlone_48 () (by rw [hv, show 12 - k = 0 by omega]; rfl) (by decide) hP hD hS
      · skip
        have c_1 := mt (nI_leI (by omega) (by omega)).mpr c_1
        refine lv_aload_n hx hb dX2_isMatchedByItsLikeAlone_8 rfl (lv_at hl 0 rfl) ?_
        refine k_get hx hb hts hown hK hP iw_X2_isMatchedByItsLikeAlone_X2 rfl 0 3 fm_X2_isMatchedByItsLikeAlone_15 (by decide) rfl rfl dX2_isMatchedByItsLikeAlone_9 ?_
        refine lv_iload_n hx hb dX2_isMatchedByItsLikeAlone_12 rfl (lv_at hl 2 rfl) ?_
        refine k_zald hx hb hK hP 2 rfl (by omega) (by omega) dX2_isMatchedByItsLikeAlone_13 ?_
        refine lv_if_eq (tgt := 41) hx hb dX2_isMatchedByItsLikeAlone_14 (by decide) (fun c_2 => ?_) (fun c_2 => ?_)
        · skip
          have hv2 : mtch nu pt ri ro w 0 12 = mtch nu pt ri ro w (k + 1) (12 - (k + 1)) := by rw [hv, show 12 - k = (12 - (k + 1)) + 1 by omega, mtch, if_neg (fun q => q.1 c_2)]
          refine lv_iinc (v := nI (k + 1)) (lv' := [(2, .int (nI (k + 1))), (0, .ref (r0)), (1, .int (nI w))]) hx hb dX2_isMatchedByItsLikeAlone_41 hl (k := 2) rfl (nI_inc1 k) (by decide) rfl (fun ls hl => ?_)
          refine lv_goto (tgt := 2) hx hb dX2_isMatchedByItsLikeAlone_44 (by decide) ?_
          exact ih_2 (k + 1) (by omega) (by omega) hv2 _ _ hP hD hS ls (lv_sub hl [1, 2, 0] rfl)
        · skip
          have h1 := c_2
          refine lv_aload_n hx hb dX2_isMatchedByItsLikeAlone_17 rfl (lv_at hl 0 rfl) ?_
          refine lv_iload_n hx hb dX2_isMatchedByItsLikeAlone_18 rfl (lv_at hl 2 rfl) ?_
          refine lv_iload_n hx hb dX2_isMatchedByItsLikeAlone_19 rfl (lv_at hl 1 rfl) ?_
          refine lv_lconst (v := 1) hx hb dX2_isMatchedByItsLikeAlone_20 (by decide) ?_
          refine lv_lconst (v := 1) hx hb dX2_isMatchedByItsLikeAlone_21 (by decide) ?_
          refine go_i (wc := [(r0, .inr (2, [.int (nI ri), .int (nI ro), .ref (rn), .ref (rp)])), (rn, aI g 48 nu), (rp, aZ g 12 pt)]) (wr := []) hP hD hS hA [0, 1, 2] [] rfl rfl rfl rfl (by decide) (fun hPc hDc => rn_V (As := [.int (nI k), .int (nI w), .long (1), .long (1)]) (rest := []) ⟨hx, hb, hml, hown, hts⟩ ((c_X2_fits l g r0 rn rp ri ro nu pt k w 1 1 (by omega) (by omega) (by omega) (by omega)) _) (cwV 4 hts gX2_isMatchedByItsLikeAlone_X2_fits rfl rfl rfl (by decide +kernel) ⟨Nat.le_of_ble_eq_true rfl, Nat.le_of_ble_eq_true rfl⟩) hK hN hPc hDc 0 rfl rfl rfl rfl hl.1 (Nat.le_of_ble_eq_true rfl) dX2_isMatchedByItsLikeAlone_22 ⟨Nat.le_of_ble_eq_true rfl, Nat.le_of_ble_eq_true rfl⟩) ?_
          intro r_3 u_4 H locs h_5 hP hD hS
          have hP : va_P g.1 vwCl [(r0, .inr (2, [.int (nI ri), .int (nI ro), .ref (rn), .ref (rp)])), (rn, aI g 48 nu), (rp, aZ g 12 pt)] H := hP.sub [0, 1, 2] rfl
          have hD : va_D A [(r0, .inr (2, [.int (nI ri), .int (nI ro), .ref (rn), .ref (rp)])), (rn, aI g 48 nu), (rp, aZ g 12 pt)] := hD.sub [0, 1, 2] rfl rfl
          have h_5 : r_3 = bI (fitsB nu ri ro k w 1 1) := h_5
          subst h_5
          refine lv_if_eq (tgt := 41) hx hb dX2_isMatchedByItsLikeAlone_25 (by decide) (fun c_6 => ?_) (fun c_6 => ?_)
          · skip
            have hv2 : mtch nu pt ri ro w 0 12 = mtch nu pt ri ro w (k + 1) (12 - (k + 1)) := by rw [hv, show 12 - k = (12 - (k + 1)) + 1 by omega, mtch, if_neg (fun q => absurd (bI_eq0.mp c_6) (by rw [q.2.1]; decide))]
            refine lv_iinc (v := nI (k + 1)) (lv' := [(2, .int (nI (k + 1))), (0, .ref (r0)), (1, .int (nI w))]) hx hb dX2_isMatchedByItsLikeAlone_41 hl (k := 2) rfl (nI_inc1 k) (by decide) rfl (fun ls hl => ?_)
            refine lv_goto (tgt := 2) hx hb dX2_isMatchedByItsLikeAlone_44 (by decide) ?_
            exact ih_2 (k + 1) (by omega) (by omega) hv2 _ _ hP hD hS ls (lv_sub hl [1, 2, 0] rfl)
          · skip
            have h2 := bI_ne0.mp c_6
            refine lv_aload_n hx hb dX2_isMatchedByItsLikeAlone_28 rfl (lv_at hl 0 rfl) ?_
            refine lv_iload_n hx hb dX2_isMatchedByItsLikeAlone_29 rfl (lv_at hl 1 rfl) ?_
            refine lv_iload_n hx hb dX2_isMatchedByItsLikeAlone_30 rfl (lv_at hl 2 rfl) ?_
            refine lv_lconst (v := 1) hx hb dX2_isMatchedByItsLikeAlone_31 (by decide) ?_
            refine lv_lconst (v := 1) hx hb dX2_isMatchedByItsLikeAlone_32 (by decide) ?_
            refine go_i (wc := [(r0, .inr (2, [.int (nI ri), .int (nI ro), .ref (rn), .ref (rp)])), (rn, aI g 48 nu), (rp, aZ g 12 pt)]) (wr := []) hP hD hS hA [0, 1, 2] [] rfl rfl rfl rfl (by decide) (fun hPc hDc => rn_V (As := [.int (nI w), .int (nI k), .long (1), .long (1)]) (rest := []) ⟨hx, hb, hml, hown, hts⟩ ((c_X2_fits l g r0 rn rp ri ro nu pt w k 1 1 (by omega) (by omega) (by omega) (by omega)) _) (cwV 4 hts gX2_isMatchedByItsLikeAlone_X2_fits rfl rfl rfl (by decide +kernel) ⟨Nat.le_of_ble_eq_true rfl, Nat.le_of_ble_eq_true rfl⟩) hK hN hPc hDc 0 rfl rfl rfl rfl hl.1 (Nat.le_of_ble_eq_true rfl) dX2_isMatchedByItsLikeAlone_33 ⟨Nat.le_of_ble_eq_true rfl, Nat.le_of_ble_eq_true rfl⟩) ?_
            intro r_7 u_8 H locs h_9 hP hD hS
            have hP : va_P g.1 vwCl [(r0, .inr (2, [.int (nI ri), .int (nI ro), .ref (rn), .ref (rp)])), (rn, aI g 48 nu), (rp, aZ g 12 pt)] H := hP.sub [0, 1, 2] rfl
            have hD : va_D A [(r0, .inr (2, [.int (nI ri), .int (nI ro), .ref (rn), .ref (rp)])), (rn, aI g 48 nu), (rp, aZ g 12 pt)] := hD.sub [0, 1, 2] rfl rfl
            have h_9 : r_7 = bI (fitsB nu ri ro w k 1 1) := h_9
            subst h_9
            refine lv_if_ne (tgt := 41) hx hb dX2_isMatchedByItsLikeAlone_36 (by decide) (fun c_10 => ?_) (fun c_10 => ?_)
            · skip
              have hv2 : mtch nu pt ri ro w 0 12 = mtch nu pt ri ro w (k + 1) (12 - (k + 1)) := by rw [hv, show 12 - k = (12 - (k + 1)) + 1 by omega, mtch, if_neg (fun q => absurd (bI_ne0.mp c_10) (by rw [q.2.2]; decide))]
              refine lv_iinc (v := nI (k + 1)) (lv' := [(2, .int (nI (k + 1))), (0, .ref (r0)), (1, .int (nI w))]) hx hb dX2_isMatchedByItsLikeAlone_41 hl (k := 2) rfl (nI_inc1 k) (by decide) rfl (fun ls hl => ?_)
              refine lv_goto (tgt := 2) hx hb dX2_isMatchedByItsLikeAlone_44 (by decide) ?_
              exact ih_2 (k + 1) (by omega) (by omega) hv2 _ _ hP hD hS ls (lv_sub hl [1, 2, 0] rfl)
            · skip
              have h3 := bI_eq0.mp c_10
              refine lv_iconst (v := nI 0) hx hb dX2_isMatchedByItsLikeAlone_39 (by decide) ?_
              exact ret dX2_isMatchedByItsLikeAlone_40 () (by rw [hv, show 12 - k = (12 - (k + 1)) + 1 by omega, mtch, if_pos ⟨h1, h2, h3⟩]; rfl) (by decide) hP hD hS
  exact lp_2 (12 - 0 + 1) 0 (by omega) (by omega) rfl _ _ hP hD hS ls (lv_sub hl [1, 2, 0] rfl)
theorem iw_X2_shareByOne_X1 : ∀ w ∈ wsX10, w ∈ wsX2_shareByOne := by decide +kernel
theorem iw_X2_shareByOne_X2 : ∀ w ∈ wsX20, w ∈ wsX2_shareByOne := by decide +kernel
theorem fm_X2_shareByOne_19 : Cond.fieldLink RX2 19 "EdgeBench$Rows" "ins" "I" ∈ wsX2_shareByOne := by decide +kernel
theorem fm_X2_shareByOne_15 : Cond.fieldLink RX2 15 "EdgeBench$Rows" "part" "[Z" ∈ wsX2_shareByOne := by decide +kernel
set_option maxHeartbeats 4000000 in
set_option maxRecDepth 100000 in
theorem c_X2_shareByOne (l : Launch) (g : Gt) (r0 : Nat) (rn : Nat) (rp : Nat) (ri : Nat) (ro : Nat) (nu : Nat → Int32) (pt : Nat → Int32) (w : Nat) (hw : w < 12) (hri : ri ≤ 2) (hro : ro ≤ 2) : CR l yX2_shareByOne wsX2_shareByOne { frames := 2, cells := 1, slots := 2, locals := 56 } g [.ref (r0), .int (nI w)] [(r0, .inr (2, [.int (nI ri), .int (nI ro), .ref (rn), .ref (rp)])), (rn, aI g 48 nu), (rp, aZ g 12 pt)] (fun (zu : Unit) => True) (fun (zu : Unit) za => [(r0, .inr (2, [.int (nI ri), .int (nI ro), .ref (rn), .ref (rp)])), (rn, aI g 48 nu), (rp, aZ g 12 pt), (za, .inr (1, [.long (frT (sbO nu pt ri ro w 0 12 (0, 0)).1 (sbO nu pt ri ro w 0 12 (0, 0)).2), .long (frB (sbO nu pt ri ro w 0 12 (0, 0)).1 (sbO nu pt ri ro w 0 12 (0, 0)).2)]))]) 1 2 := by
  refine ent_r (cc := cX2_shareByOne) (maxL := 13) (by decide) rfl (Nat.le_of_ble_eq_true rfl) ?_
  intro p e s m below meth c A args Q hE ret ls hl
  obtain ⟨hx, hb, hml, hown, hts, hnm, hA, hP, hD, hK, hN⟩ := hE
  have hS : va_S A s.heap s.heap [] := va_S.rf
  have hl : lv_has ls 13 [(0, .ref (r0)), (1, .int (nI w))] := hl
  have hP : va_P g.1 vwCl [(r0, .inr (2, [.int (nI ri), .int (nI ro), .ref (rn), .ref (rp)])), (rn, aI g 48 nu), (rp, aZ g 12 pt)] s.heap := hP
  refine lv_lconst (v := 0) hx hb dX2_shareByOne_0 (by decide) ?_
  refine lv_lstore_n (lv' := [(2, .long (0)), (0, .ref (r0)), (1, .int (nI w))]) hx hb dX2_shareByOne_1 rfl hl (by decide) rfl (fun ls hl => ?_)
  refine lv_lconst (v := 0) hx hb dX2_shareByOne_2 (by decide) ?_
  refine lv_lstore (lv' := [(4, .long (0)), (2, .long (0)), (0, .ref (r0)), (1, .int (nI w))]) hx hb dX2_shareByOne_3 hl (by decide) rfl (fun ls hl => ?_)
  refine lv_iconst (v := nI 0) hx hb dX2_shareByOne_5 (by decide) ?_
  refine lv_istore (lv' := [(6, .int (nI 0)), (4, .long (0)), (2, .long (0)), (0, .ref (r0)), (1, .int (nI w))]) hx hb dX2_shareByOne_6 hl (by decide) rfl (fun ls hl => ?_)
  have lp_8 : ∀ (n : Nat) (o : Nat) (tp : Int64) (bt : Int64), 12 - o < n → o ≤ 12 → sbO nu pt ri ro w 0 12 (0, 0) = sbO nu pt ri ro w o (12 - o) (tp, bt) → ∀ (H : Heap) (locs : List Loc), va_P g.1 vwCl [(r0, .inr (2, [.int (nI ri), .int (nI ro), .ref (rn), .ref (rp)])), (rn, aI g 48 nu), (rp, aZ g 12 pt)] H → va_D A [(r0, .inr (2, [.int (nI ri), .int (nI ro), .ref (rn), .ref (rp)])), (rn, aI g 48 nu), (rp, aZ g 12 pt)] → va_S A s.heap H locs → ∀ ls : Array Slot, lv_has ls 13 [(0, .ref (r0)), (1, .int (nI w)), (2, .long (tp)), (4, .long (bt)), (6, .int (nI o))] → W p l e { frames := 2, cells := 1, slots := 2, locals := 56 } s m args below meth c H locs 0 0 Q (F0 m 8 ls []) := by
    intro n
    induction n with
    | zero =>
      intro o tp bt hms
      omega
    | succ n ih_8 =>
      intro o tp bt hms_8 ho hv H locs hP hD hS ls hl
      refine lv_iload hx hb dX2_shareByOne_8 (lv_at hl 4 rfl) ?_
      refine lv_bipush (v := nI 12) hx hb dX2_shareByOne_10 (by decide) ?_
      refine lv_icmp_ge (tgt := 130) hx hb dX2_shareByOne_12 (by decide) (fun c_1 => ?_) (fun c_1 => ?_)
      · skip
        have c_1 := (nI_leI (by omega) (by omega)).mp c_1
        have hfin : sbO nu pt ri ro w 0 12 (0, 0) = (tp, bt) := by rw [hv, show 12 - o = 0 by omega]; rfl
        have e1 : tp = (sbO nu pt ri ro w 0 12 (0, 0)).1 := (congrArg Prod.fst hfin).symm
        have e2 : bt = (sbO nu pt ri ro w 0 12 (0, 0)).2 := (congrArg Prod.snd hfin).symm
        clear hfin hv
        subst e1
        subst e2
        refine va_new (ci := 1) (fs := [.long (0), .long (0)]) (C := RX1) (T := TX1) (N := 2) hx hb hts iw_X2_shareByOne_X1 tyX1 tyX1_ok hown (hts (.classLink RX2 44 RX1) (by decide +kernel)) (hts (.instantiable RX1 2) (by decide +kernel)) (hts (.initialized RX1) (by decide +kernel)) hK hP hD hS hA rfl (by decide) (Nat.le_of_ble_eq_true rfl) (Nat.le_of_ble_eq_true rfl) dX2_shareByOne_130 (fun q_2 H hP hD hS => ?_)
        have hP : va_P g.1 vwCl [(r0, .inr (2, [.int (nI ri), .int (nI ro), .ref (rn), .ref (rp)])), (rn, aI g 48 nu), (rp, aZ g 12 pt), (q_2, .inr (1, [.long (0), .long (0)]))] H := hP
        have hD : va_D A [(r0, .inr (2, [.int (nI ri), .int (nI ro), .ref (rn), .ref (rp)])), (rn, aI g 48 nu), (rp, aZ g 12 pt), (q_2, .inr (1, [.long (0), .long (0)]))] := hD
        refine lv_dup hx hb dX2_shareByOne_133 rfl ?_
        refine lv_lload_n hx hb dX2_shareByOne_134 rfl (lv_at hl 2 rfl) ?_
        refine lv_lload hx hb dX2_shareByOne_135 (lv_at hl 3 rfl) ?_
        refine go_v (wc := [(q_2, .inr (1, [.long (0), .long (0)]))]) (wr := [(r0, .inr (2, [.int (nI ri), .int (nI ro), .ref (rn), .ref (rp)])), (rn, aI g 48 nu), (rp, aZ g 12 pt)]) hP hD hS hA [3] [0, 1, 2] rfl rfl rfl rfl (by decide) (fun hPc hDc => rn_IN (As := [.long (((sbO nu pt ri ro w 0 12 (0, 0)).1)), .long (((sbO nu pt ri ro w 0 12 (0, 0)).2))]) (rest := [.ref (q_2)]) ⟨hx, hb, hml, hown, hts⟩ ((c_X1_init l g q_2 0 0 (((sbO nu pt ri ro w 0 12 (0, 0)).1)) (((sbO nu pt ri ro w 0 12 (0, 0)).2)) ) _) (⟨va_cnB 2 hts gX2_shareByOne_X1_init_n46 rfl rfl rfl (hN.2 _ (List.mem_of_getElem? (i := 6) rfl)) (hts _ (by decide +kernel)) (by decide +kernel) ⟨Nat.le_of_ble_eq_true rfl, Nat.le_of_ble_eq_true rfl⟩, rfl, hts _ (by decide +kernel)⟩) hK hN hPc hDc rfl rfl hl.1 (Nat.le_of_ble_eq_true rfl) dX2_shareByOne_137 ⟨Nat.le_of_ble_eq_true rfl, Nat.le_of_ble_eq_true rfl⟩) ?_
        intro u_4 H locs h_5 hP hD hS
        have hP : va_P g.1 vwCl [(r0, .inr (2, [.int (nI ri), .int (nI ro), .ref (rn), .ref (rp)])), (rn, aI g 48 nu), (rp, aZ g 12 pt), (q_2, .inr (1, [.long (frT (((sbO nu pt ri ro w 0 12 (0, 0)).1)) (((sbO nu pt ri ro w 0 12 (0, 0)).2))), .long (frB (((sbO nu pt ri ro w 0 12 (0, 0)).1)) (((sbO nu pt ri ro w 0 12 (0, 0)).2)))]))] H := hP.sub [0, 1, 2, 3] rfl
        have hD : va_D A [(r0, .inr (2, [.int (nI ri), .int (nI ro), .ref (rn), .ref (rp)])), (rn, aI g 48 nu), (rp, aZ g 12 pt), (q_2, .inr (1, [.long (frT (((sbO nu pt ri ro w 0 12 (0, 0)).1)) (((sbO nu pt ri ro w 0 12 (0, 0)).2))), .long (frB (((sbO nu pt ri ro w 0 12 (0, 0)).1)) (((sbO nu pt ri ro w 0 12 (0, 0)).2)))]))] := hD.sub [0, 1, 2, 3] rfl rfl
        exact ret dX2_shareByOne_140 () (trivial) hP hD hS
      · skip
        have c_1 := mt (nI_leI (by omega) (by omega)).mpr c_1
        refine lv_iconst (v := nI 0) hx hb dX2_shareByOne_15 (by decide) ?_
        refine lv_istore (lv' := [(7, .int (nI 0)), (0, .ref (r0)), (1, .int (nI w)), (2, .long (tp)), (4, .long (bt)), (6, .int (nI o))]) hx hb dX2_shareByOne_16 hl (by decide) rfl (fun ls hl => ?_)
        have lp_18 : ∀ (n : Nat) (k : Nat) (tp : Int64) (bt : Int64), ri - k < n → k ≤ 2 → sbO nu pt ri ro w 0 12 (0, 0) = sbO nu pt ri ro w (o + 1) (12 - (o + 1)) (sbI nu pt ri ro w o k (ri - k) (tp, bt)) → ∀ (H : Heap) (locs : List Loc), va_P g.1 vwCl [(r0, .inr (2, [.int (nI ri), .int (nI ro), .ref (rn), .ref (rp)])), (rn, aI g 48 nu), (rp, aZ g 12 pt)] H → va_D A [(r0, .inr (2, [.int (nI ri), .int (nI ro), .ref (rn), .ref (rp)])), (rn, aI g 48 nu), (rp, aZ g 12 pt)] → va_S A s.heap H locs → ∀ ls : Array Slot, lv_has ls 13 [(0, .ref (r0)), (1, .int (nI w)), (2, .long (tp)), (4, .long (bt)), (6, .int (nI o)), (7, .int (nI k))] → W p l e { frames := 2, cells := 1, slots := 2, locals := 56 } s m args below meth c H locs 0 0 Q (F0 m 18 ls []) := by
          intro n
          induction n with
          | zero =>
            intro k tp bt hms
            omega
          | succ n ih_18 =>
            intro k tp bt hms_18 hk hI H locs hP hD hS ls hl
            refine lv_iload hx hb dX2_shareByOne_18 (lv_at hl 5 rfl) ?_
            refine lv_aload_n hx hb dX2_shareByOne_20 rfl (lv_at hl 0 rfl) ?_
            refine k_get hx hb hts hown hK hP iw_X2_shareByOne_X2 rfl 0 0 fm_X2_shareByOne_19 (by decide) rfl rfl dX2_shareByOne_21 ?_
            refine lv_icmp_ge (tgt := 124) hx hb dX2_shareByOne_24 (by decide) (fun c_6 => ?_) (fun c_6 => ?_)
            · skip
              have c_6 := (nI_leI (by omega) (by omega)).mp c_6
              refine lv_iinc (v := nI (o + 1)) (lv' := [(6, .int (nI (o + 1))), (0, .ref (r0)), (1, .int (nI w)), (2, .long (tp)), (4, .long (bt)), (7, .int (nI k))]) hx hb dX2_shareByOne_124 hl (k := 4) rfl (nI_inc1 o) (by decide) rfl (fun ls hl => ?_)
              refine lv_goto (tgt := 8) hx hb dX2_shareByOne_127 (by decide) ?_
              exact ih_8 (o + 1) tp bt (by omega) (by omega) (by rw [hI, show ri - k = 0 by omega]; rfl) _ _ hP hD hS ls (lv_sub hl [1, 2, 3, 4, 0] rfl)
            · skip
              have c_6 := mt (nI_leI (by omega) (by omega)).mpr c_6
              refine lv_aload_n hx hb dX2_shareByOne_27 rfl (lv_at hl 0 rfl) ?_
              refine lv_iload hx hb dX2_shareByOne_28 (lv_at hl 4 rfl) ?_
              refine lv_iload hx hb dX2_shareByOne_30 (lv_at hl 5 rfl) ?_
              refine go_i (wc := [(r0, .inr (2, [.int (nI ri), .int (nI ro), .ref (rn), .ref (rp)])), (rn, aI g 48 nu), (rp, aZ g 12 pt)]) (wr := []) hP hD hS hA [0, 1, 2] [] rfl rfl rfl rfl (by decide) (fun hPc hDc => rn_V (As := [.int (nI o), .int (nI k)]) (rest := []) ⟨hx, hb, hml, hown, hts⟩ ((c_X2_of l g r0 rn rp ri ro nu pt o k (by omega) (by omega)) _) (cwV 2 hts gX2_shareByOne_X2_of rfl rfl rfl (by decide +kernel) ⟨Nat.le_of_ble_eq_true rfl, Nat.le_of_ble_eq_true rfl⟩) hK hN hPc hDc 0 rfl rfl rfl rfl hl.1 (Nat.le_of_ble_eq_true rfl) dX2_shareByOne_32 ⟨Nat.le_of_ble_eq_true rfl, Nat.le_of_ble_eq_true rfl⟩) ?_
              intro r_7 u_8 H locs h_9 hP hD hS
              have hP : va_P g.1 vwCl [(r0, .inr (2, [.int (nI ri), .int (nI ro), .ref (rn), .ref (rp)])), (rn, aI g 48 nu), (rp, aZ g 12 pt)] H := hP.sub [0, 1, 2] rfl
              have hD : va_D A [(r0, .inr (2, [.int (nI ri), .int (nI ro), .ref (rn), .ref (rp)])), (rn, aI g 48 nu), (rp, aZ g 12 pt)] := hD.sub [0, 1, 2] rfl rfl
              have h_9 : r_7 = nu (o * 4 + k) := h_9
              subst h_9
              refine lv_i2l hx hb dX2_shareByOne_35 rfl ?_
              refine lv_lstore (lv' := [(8, .long ((nu (o * 4 + k)).toInt64)), (0, .ref (r0)), (1, .int (nI w)), (2, .long (tp)), (4, .long (bt)), (6, .int (nI o)), (7, .int (nI k))]) hx hb dX2_shareByOne_36 hl (by decide) rfl (fun ls hl => ?_)
              refine lv_aload_n hx hb dX2_shareByOne_38 rfl (lv_at hl 1 rfl) ?_
              refine lv_iload_n hx hb dX2_shareByOne_39 rfl (lv_at hl 2 rfl) ?_
              refine lv_iload hx hb dX2_shareByOne_40 (lv_at hl 6 rfl) ?_
              refine go_i (wc := [(r0, .inr (2, [.int (nI ri), .int (nI ro), .ref (rn), .ref (rp)])), (rn, aI g 48 nu), (rp, aZ g 12 pt)]) (wr := []) hP hD hS hA [0, 1, 2] [] rfl rfl rfl rfl (by decide) (fun hPc hDc => rn_V (As := [.int (nI w), .int (nI k)]) (rest := []) ⟨hx, hb, hml, hown, hts⟩ ((c_X2_of l g r0 rn rp ri ro nu pt w k (by omega) (by omega)) _) (cwV 2 hts gX2_shareByOne_X2_of rfl rfl rfl (by decide +kernel) ⟨Nat.le_of_ble_eq_true rfl, Nat.le_of_ble_eq_true rfl⟩) hK hN hPc hDc 0 rfl rfl rfl rfl hl.1 (Nat.le_of_ble_eq_true rfl) dX2_shareByOne_42 ⟨Nat.le_of_ble_eq_true rfl, Nat.le_of_ble_eq_true rfl⟩) ?_
              intro r_10 u_11 H locs h_12 hP hD hS
              have hP : va_P g.1 vwCl [(r0, .inr (2, [.int (nI ri), .int (nI ro), .ref (rn), .ref (rp)])), (rn, aI g 48 nu), (rp, aZ g 12 pt)] H := hP.sub [0, 1, 2] rfl
              have hD : va_D A [(r0, .inr (2, [.int (nI ri), .int (nI ro), .ref (rn), .ref (rp)])), (rn, aI g 48 nu), (rp, aZ g 12 pt)] := hD.sub [0, 1, 2] rfl rfl
              have h_12 : r_10 = nu (w * 4 + k) := h_12
              subst h_12
              refine lv_i2l hx hb dX2_shareByOne_45 rfl ?_
              refine lv_lstore (lv' := [(10, .long ((nu (w * 4 + k)).toInt64)), (8, .long ((nu (o * 4 + k)).toInt64)), (0, .ref (r0)), (1, .int (nI w)), (2, .long (tp)), (4, .long (bt)), (6, .int (nI o)), (7, .int (nI k))]) hx hb dX2_shareByOne_46 hl (by decide) rfl (fun ls hl => ?_)
              refine lv_lload hx hb dX2_shareByOne_48 (lv_at hl 5 rfl) ?_
              refine lv_lconst (v := 0) hx hb dX2_shareByOne_50 (by decide) ?_
              refine W.lcmp hx hb dX2_shareByOne_51 ?_
              have lp_73 : ∀ (H : Heap) (locs : List Loc), va_P g.1 vwCl [(r0, .inr (2, [.int (nI ri), .int (nI ro), .ref (rn), .ref (rp)])), (rn, aI g 48 nu), (rp, aZ g 12 pt)] H → va_D A [(r0, .inr (2, [.int (nI ri), .int (nI ro), .ref (rn), .ref (rp)])), (rn, aI g 48 nu), (rp, aZ g 12 pt)] → va_S A s.heap H locs → ∀ ls : Array Slot, lv_has ls 13 [(0, .ref (r0)), (1, .int (nI w)), (2, .long (tp)), (4, .long (bt)), (6, .int (nI o)), (7, .int (nI k)), (8, .long ((nu (o * 4 + k)).toInt64)), (10, .long ((nu (w * 4 + k)).toInt64))] → W p l e { frames := 2, cells := 1, slots := 2, locals := 56 } s m args below meth c H locs 0 0 Q (F0 m 73 ls [.int (bI (lsB (nu (o * 4 + k)).toInt64 (nu (w * 4 + k)).toInt64 tp bt))]) := by
                intro   H locs hP hD hS ls hl
                refine lv_istore (lv' := [(12, .int (bI (lsB (nu (o * 4 + k)).toInt64 (nu (w * 4 + k)).toInt64 tp bt))), (0, .ref (r0)), (1, .int (nI w)), (2, .long (tp)), (4, .long (bt)), (6, .int (nI o)), (7, .int (nI k)), (8, .long ((nu (o * 4 + k)).toInt64)), (10, .long ((nu (w * 4 + k)).toInt64))]) hx hb dX2_shareByOne_73 hl (by decide) rfl (fun ls hl => ?_)
                refine lv_aload_n hx hb dX2_shareByOne_75 rfl (lv_at hl 1 rfl) ?_
                refine k_get hx hb hts hown hK hP iw_X2_shareByOne_X2 rfl 0 3 fm_X2_shareByOne_15 (by decide) rfl rfl dX2_shareByOne_76 ?_
                refine lv_iload hx hb dX2_shareByOne_79 (lv_at hl 5 rfl) ?_
                refine k_zald hx hb hK hP 2 rfl (by omega) (by omega) dX2_shareByOne_81 ?_
                refine lv_if_eq (tgt := 118) hx hb dX2_shareByOne_82 (by decide) (fun c_13 => ?_) (fun c_13 => ?_)
                · skip
                  have hs : sbS nu pt ri ro w o k (tp, bt) = (tp, bt) := if_neg (fun q => q.1 c_13)
                  refine lv_iinc (v := nI (k + 1)) (lv' := [(7, .int (nI (k + 1))), (12, .int (bI (lsB (nu (o * 4 + k)).toInt64 (nu (w * 4 + k)).toInt64 tp bt))), (0, .ref (r0)), (1, .int (nI w)), (2, .long (tp)), (4, .long (bt)), (6, .int (nI o)), (8, .long ((nu (o * 4 + k)).toInt64)), (10, .long ((nu (w * 4 + k)).toInt64))]) hx hb dX2_shareByOne_118 hl (k := 6) rfl (nI_inc1 k) (by decide) rfl (fun ls hl => ?_)
                  refine lv_goto (tgt := 18) hx hb dX2_shareByOne_121 (by decide) ?_
                  exact ih_18 (k + 1) tp bt (by omega) (by omega) (by rw [hI, show ri - k = (ri - (k + 1)) + 1 by omega, sbI, hs]) _ _ hP hD hS ls (lv_sub hl [2, 3, 4, 5, 6, 0] rfl)
                · skip
                  have h1 := c_13
                  refine lv_lload hx hb dX2_shareByOne_85 (lv_at hl 8 rfl) ?_
                  refine lv_lconst (v := 0) hx hb dX2_shareByOne_87 (by decide) ?_
                  refine W.lcmp hx hb dX2_shareByOne_88 ?_
                  refine lv_if_le (tgt := 118) hx hb dX2_shareByOne_89 (by decide) (fun c_14 => ?_) (fun c_14 => ?_)
                  · skip
                    have c_14 := (lc_le _ _).mp c_14
                    have hs : sbS nu pt ri ro w o k (tp, bt) = (tp, bt) := if_neg (fun q => by have q := q.2.1; rw [i64_lt] at q; rw [i64_le] at c_14; omega)
                    refine lv_iinc (v := nI (k + 1)) (lv' := [(7, .int (nI (k + 1))), (12, .int (bI (lsB (nu (o * 4 + k)).toInt64 (nu (w * 4 + k)).toInt64 tp bt))), (0, .ref (r0)), (1, .int (nI w)), (2, .long (tp)), (4, .long (bt)), (6, .int (nI o)), (8, .long ((nu (o * 4 + k)).toInt64)), (10, .long ((nu (w * 4 + k)).toInt64))]) hx hb dX2_shareByOne_118 hl (k := 6) rfl (nI_inc1 k) (by decide) rfl (fun ls hl => ?_)
                    refine lv_goto (tgt := 18) hx hb dX2_shareByOne_121 (by decide) ?_
                    exact ih_18 (k + 1) tp bt (by omega) (by omega) (by rw [hI, show ri - k = (ri - (k + 1)) + 1 by omega, sbI, hs]) _ _ hP hD hS ls (lv_sub hl [2, 3, 4, 5, 6, 0] rfl)
                  · skip
                    have c_14 := mt (lc_le _ _).mpr c_14
                    have h2 : 0 < (nu (w * 4 + k)).toInt64 := by rw [i64_lt]; rw [i64_le] at c_14; omega
                    refine lv_iload hx hb dX2_shareByOne_92 (lv_at hl 0 rfl) ?_
                    refine lv_if_eq (tgt := 118) hx hb dX2_shareByOne_94 (by decide) (fun c_15 => ?_) (fun c_15 => ?_)
                    · skip
                      have hs : sbS nu pt ri ro w o k (tp, bt) = (tp, bt) := if_neg (fun q => absurd (bI_eq0.mp c_15) (by rw [q.2.2.1]; decide))
                      refine lv_iinc (v := nI (k + 1)) (lv' := [(7, .int (nI (k + 1))), (12, .int (bI (lsB (nu (o * 4 + k)).toInt64 (nu (w * 4 + k)).toInt64 tp bt))), (0, .ref (r0)), (1, .int (nI w)), (2, .long (tp)), (4, .long (bt)), (6, .int (nI o)), (8, .long ((nu (o * 4 + k)).toInt64)), (10, .long ((nu (w * 4 + k)).toInt64))]) hx hb dX2_shareByOne_118 hl (k := 6) rfl (nI_inc1 k) (by decide) rfl (fun ls hl => ?_)
                      refine lv_goto (tgt := 18) hx hb dX2_shareByOne_121 (by decide) ?_
                      exact ih_18 (k + 1) tp bt (by omega) (by omega) (by rw [hI, show ri - k = (ri - (k + 1)) + 1 by omega, sbI, hs]) _ _ hP hD hS ls (lv_sub hl [2, 3, 4, 5, 6, 0] rfl)
                    · skip
                      have h3 := bI_ne0.mp c_15
                      refine lv_aload_n hx hb dX2_shareByOne_97 rfl (lv_at hl 1 rfl) ?_
                      refine lv_iload hx hb dX2_shareByOne_98 (lv_at hl 5 rfl) ?_
                      refine lv_iload_n hx hb dX2_shareByOne_100 rfl (lv_at hl 2 rfl) ?_
                      refine lv_lload hx hb dX2_shareByOne_101 (lv_at hl 7 rfl) ?_
                      refine lv_lload hx hb dX2_shareByOne_103 (lv_at hl 8 rfl) ?_
                      refine go_i (wc := [(r0, .inr (2, [.int (nI ri), .int (nI ro), .ref (rn), .ref (rp)])), (rn, aI g 48 nu), (rp, aZ g 12 pt)]) (wr := []) hP hD hS hA [0, 1, 2] [] rfl rfl rfl rfl (by decide) (fun hPc hDc => rn_V (As := [.int (nI o), .int (nI w), .long ((nu (o * 4 + k)).toInt64), .long ((nu (w * 4 + k)).toInt64)]) (rest := []) ⟨hx, hb, hml, hown, hts⟩ ((c_X2_fits l g r0 rn rp ri ro nu pt o w ((nu (o * 4 + k)).toInt64) ((nu (w * 4 + k)).toInt64) (by omega) (by omega) (by omega) (by omega)) _) (cwV 4 hts gX2_shareByOne_X2_fits rfl rfl rfl (by decide +kernel) ⟨Nat.le_of_ble_eq_true rfl, Nat.le_of_ble_eq_true rfl⟩) hK hN hPc hDc 0 rfl rfl rfl rfl hl.1 (Nat.le_of_ble_eq_true rfl) dX2_shareByOne_105 ⟨Nat.le_of_ble_eq_true rfl, Nat.le_of_ble_eq_true rfl⟩) ?_
                      intro r_16 u_17 H locs h_18 hP hD hS
                      have hP : va_P g.1 vwCl [(r0, .inr (2, [.int (nI ri), .int (nI ro), .ref (rn), .ref (rp)])), (rn, aI g 48 nu), (rp, aZ g 12 pt)] H := hP.sub [0, 1, 2] rfl
                      have hD : va_D A [(r0, .inr (2, [.int (nI ri), .int (nI ro), .ref (rn), .ref (rp)])), (rn, aI g 48 nu), (rp, aZ g 12 pt)] := hD.sub [0, 1, 2] rfl rfl
                      have h_18 : r_16 = bI (fitsB nu ri ro o w ((nu (o * 4 + k)).toInt64) ((nu (w * 4 + k)).toInt64)) := h_18
                      subst h_18
                      refine lv_if_eq (tgt := 118) hx hb dX2_shareByOne_108 (by decide) (fun c_19 => ?_) (fun c_19 => ?_)
                      · skip
                        have hs : sbS nu pt ri ro w o k (tp, bt) = (tp, bt) := if_neg (fun q => absurd (bI_eq0.mp c_19) (by rw [q.2.2.2]; decide))
                        refine lv_iinc (v := nI (k + 1)) (lv' := [(7, .int (nI (k + 1))), (12, .int (bI (lsB (nu (o * 4 + k)).toInt64 (nu (w * 4 + k)).toInt64 tp bt))), (0, .ref (r0)), (1, .int (nI w)), (2, .long (tp)), (4, .long (bt)), (6, .int (nI o)), (8, .long ((nu (o * 4 + k)).toInt64)), (10, .long ((nu (w * 4 + k)).toInt64))]) hx hb dX2_shareByOne_118 hl (k := 6) rfl (nI_inc1 k) (by decide) rfl (fun ls hl => ?_)
                        refine lv_goto (tgt := 18) hx hb dX2_shareByOne_121 (by decide) ?_
                        exact ih_18 (k + 1) tp bt (by omega) (by omega) (by rw [hI, show ri - k = (ri - (k + 1)) + 1 by omega, sbI, hs]) _ _ hP hD hS ls (lv_sub hl [2, 3, 4, 5, 6, 0] rfl)
                      · skip
                        have hs : sbS nu pt ri ro w o k (tp, bt) = ((nu (o * 4 + k)).toInt64, (nu (w * 4 + k)).toInt64) := if_pos ⟨h1, h2, h3, bI_ne0.mp c_19⟩
                        refine lv_lload hx hb dX2_shareByOne_111 (lv_at hl 7 rfl) ?_
                        refine lv_lstore_n (lv' := [(2, .long ((nu (o * 4 + k)).toInt64)), (12, .int (bI (lsB (nu (o * 4 + k)).toInt64 (nu (w * 4 + k)).toInt64 tp bt))), (0, .ref (r0)), (1, .int (nI w)), (4, .long (bt)), (6, .int (nI o)), (7, .int (nI k)), (8, .long ((nu (o * 4 + k)).toInt64)), (10, .long ((nu (w * 4 + k)).toInt64))]) hx hb dX2_shareByOne_113 rfl hl (by decide) rfl (fun ls hl => ?_)
                        refine lv_lload hx hb dX2_shareByOne_114 (lv_at hl 8 rfl) ?_
                        refine lv_lstore (lv' := [(4, .long ((nu (w * 4 + k)).toInt64)), (2, .long ((nu (o * 4 + k)).toInt64)), (12, .int (bI (lsB (nu (o * 4 + k)).toInt64 (nu (w * 4 + k)).toInt64 tp bt))), (0, .ref (r0)), (1, .int (nI w)), (6, .int (nI o)), (7, .int (nI k)), (8, .long ((nu (o * 4 + k)).toInt64)), (10, .long ((nu (w * 4 + k)).toInt64))]) hx hb dX2_shareByOne_116 hl (by decide) rfl (fun ls hl => ?_)
                        refine lv_iinc (v := nI (k + 1)) (lv' := [(7, .int (nI (k + 1))), (4, .long ((nu (w * 4 + k)).toInt64)), (2, .long ((nu (o * 4 + k)).toInt64)), (12, .int (bI (lsB (nu (o * 4 + k)).toInt64 (nu (w * 4 + k)).toInt64 tp bt))), (0, .ref (r0)), (1, .int (nI w)), (6, .int (nI o)), (8, .long ((nu (o * 4 + k)).toInt64)), (10, .long ((nu (w * 4 + k)).toInt64))]) hx hb dX2_shareByOne_118 hl (k := 6) rfl (nI_inc1 k) (by decide) rfl (fun ls hl => ?_)
                        refine lv_goto (tgt := 18) hx hb dX2_shareByOne_121 (by decide) ?_
                        exact ih_18 (k + 1) ((nu (o * 4 + k)).toInt64) ((nu (w * 4 + k)).toInt64) (by omega) (by omega) (by rw [hI, show ri - k = (ri - (k + 1)) + 1 by omega, sbI, hs]) _ _ hP hD hS ls (lv_sub hl [4, 5, 2, 1, 6, 0] rfl)
              refine lv_if_eq (tgt := 68) hx hb dX2_shareByOne_52 (by decide) (fun c_20 => ?_) (fun c_20 => ?_)
              · skip
                have c_20 := (lc_eq _ _).mp c_20
                have hls : lsB (nu (o * 4 + k)).toInt64 (nu (w * 4 + k)).toInt64 tp bt = true := decide_eq_true (Or.inl c_20)
                refine lv_iconst (v := nI 1) hx hb dX2_shareByOne_68 (by decide) ?_
                refine k_ei (y := bI (lsB (nu (o * 4 + k)).toInt64 (nu (w * 4 + k)).toInt64 tp bt)) (by rw [hls]; rfl) ?_
                refine lv_goto (tgt := 73) hx hb dX2_shareByOne_69 (by decide) ?_
                exact lp_73   _ _ hP hD hS ls (lv_sub hl [2, 3, 4, 5, 6, 7, 1, 0] rfl)
              · skip
                have c_20 := mt (lc_eq _ _).mpr c_20
                have hb0 := c_20
                refine lv_lload hx hb dX2_shareByOne_55 (lv_at hl 1 rfl) ?_
                refine lv_lload hx hb dX2_shareByOne_57 (lv_at hl 5 rfl) ?_
                refine lv_lmul hx hb dX2_shareByOne_59 ?_
                refine lv_lload_n hx hb dX2_shareByOne_60 rfl (lv_at hl 4 rfl) ?_
                refine lv_lload hx hb dX2_shareByOne_61 (lv_at hl 0 rfl) ?_
                refine lv_lmul hx hb dX2_shareByOne_63 ?_
                refine W.lcmp hx hb dX2_shareByOne_64 ?_
                refine lv_if_ge (tgt := 72) hx hb dX2_shareByOne_65 (by decide) (fun c_21 => ?_) (fun c_21 => ?_)
                · skip
                  have c_21 := (lc_ge _ _).mp c_21
                  have hls : lsB (nu (o * 4 + k)).toInt64 (nu (w * 4 + k)).toInt64 tp bt = false := decide_eq_false (fun q => q.elim hb0 (fun q => by rw [i64_lt] at q; rw [i64_le] at c_21; omega))
                  refine lv_iconst (v := nI 0) hx hb dX2_shareByOne_72 (by decide) ?_
                  refine k_ei (y := bI (lsB (nu (o * 4 + k)).toInt64 (nu (w * 4 + k)).toInt64 tp bt)) (by rw [hls]; rfl) ?_
                  exact lp_73   _ _ hP hD hS ls (lv_sub hl [2, 3, 4, 5, 6, 7, 1, 0] rfl)
                · skip
                  have c_21 := mt (lc_ge _ _).mpr c_21
                  have hls : lsB (nu (o * 4 + k)).toInt64 (nu (w * 4 + k)).toInt64 tp bt = true := decide_eq_true (Or.inr (by rw [i64_lt]; rw [i64_le] at c_21; omega))
                  refine lv_iconst (v := nI 1) hx hb dX2_shareByOne_68 (by decide) ?_
                  refine k_ei (y := bI (lsB (nu (o * 4 + k)).toInt64 (nu (w * 4 + k)).toInt64 tp bt)) (by rw [hls]; rfl) ?_
                  refine lv_goto (tgt := 73) hx hb dX2_shareByOne_69 (by decide) ?_
                  exact lp_73   _ _ hP hD hS ls (lv_sub hl [2, 3, 4, 5, 6, 7, 1, 0] rfl)
        exact lp_18 (ri - 0 + 1) 0 tp bt (by omega) (by omega) (by rw [hv, show 12 - o = (12 - (o + 1)) + 1 by omega]; rfl) _ _ hP hD hS ls (lv_sub hl [1, 2, 3, 4, 5, 0] rfl)
  exact lp_8 (12 - 0 + 1) 0 0 0 (by omega) (by omega) rfl _ _ hP hD hS ls (lv_sub hl [3, 4, 2, 1, 0] rfl)
theorem iw_X2_priceIns_X2 : ∀ w ∈ wsX20, w ∈ wsX2_priceIns := by decide +kernel
theorem fm_X2_priceIns_19 : Cond.fieldLink RX2 19 "EdgeBench$Rows" "ins" "I" ∈ wsX2_priceIns := by decide +kernel
theorem fm_X2_priceIns_23 : Cond.fieldLink RX2 23 "EdgeBench$Rows" "outs" "I" ∈ wsX2_priceIns := by decide +kernel
theorem fm_X2_priceIns_9 : Cond.fieldLink RX2 9 "EdgeBench$Rows" "number" "[I" ∈ wsX2_priceIns := by decide +kernel
set_option maxHeartbeats 4000000 in
set_option maxRecDepth 100000 in
theorem c_X2_priceIns (l : Launch) (g : Gt) (r0 : Nat) (rn : Nat) (rp : Nat) (ri : Nat) (ro : Nat) (nu : Nat → Int32) (pt : Nat → Int32) (p1 : Int32) (p2 : Int32) (hri : ri ≤ 2) (hro : ro ≤ 2) (hri1 : 1 ≤ ri) : CV l yX2_priceIns wsX2_priceIns { frames := 1, cells := 0, slots := 0, locals := 22 } g [.ref (r0), .int (p1), .int (p2)] [(r0, .inr (2, [.int (nI ri), .int (nI ro), .ref (rn), .ref (rp)])), (rn, aI g 48 nu), (rp, aZ g 12 pt)] (fun (zu : Unit) => True) (fun (zu : Unit) => [(r0, .inr (2, [.int (nI 1), .int (nI ro), .ref (rn), .ref (rp)])), (rn, aI g 48 (prN ri ro p1 p2 0 12 nu)), (rp, aZ g 12 pt)]) 0 0 := by
  refine ent_v (cc := cX2_priceIns) (maxL := 6) (by decide) rfl (Nat.le_of_ble_eq_true rfl) ?_
  intro p e s m below meth c A args Q hE ret ls hl
  obtain ⟨hx, hb, hml, hown, hts, hnm, hA, hP, hD, hK, hN⟩ := hE
  have hS : va_S A s.heap s.heap [] := va_S.rf
  have hl : lv_has ls 6 [(0, .ref (r0)), (1, .int (p1)), (2, .int (p2))] := hl
  have hP : va_P g.1 vwCl [(r0, .inr (2, [.int (nI ri), .int (nI ro), .ref (rn), .ref (rp)])), (rn, aI g 48 nu), (rp, aZ g 12 pt)] s.heap := hP
  refine lv_iconst (v := nI 0) hx hb dX2_priceIns_0 (by decide) ?_
  refine lv_istore_n (lv' := [(3, .int (nI 0)), (0, .ref (r0)), (1, .int (p1)), (2, .int (p2))]) hx hb dX2_priceIns_1 rfl hl (by decide) rfl (fun ls hl => ?_)
  have lp_2 : ∀ (n : Nat) (w : Nat) (f : Nat → Int32), 12 - w < n → w ≤ 12 → prN ri ro p1 p2 0 12 nu = prN ri ro p1 p2 w (12 - w) f → ∀ (H : Heap) (locs : List Loc), va_P g.1 vwCl [(r0, .inr (2, [.int (nI ri), .int (nI ro), .ref (rn), .ref (rp)])), (rn, aI g 48 f), (rp, aZ g 12 pt)] H → va_D A [(r0, .inr (2, [.int (nI ri), .int (nI ro), .ref (rn), .ref (rp)])), (rn, aI g 48 f), (rp, aZ g 12 pt)] → va_S A s.heap H locs → ∀ ls : Array Slot, lv_has ls 6 [(0, .ref (r0)), (1, .int (p1)), (2, .int (p2)), (3, .int (nI w))] → W p l e { frames := 1, cells := 0, slots := 0, locals := 22 } s m args below meth c H locs 0 0 Q (F0 m 2 ls []) := by
    intro n
    induction n with
    | zero =>
      intro w f hms
      omega
    | succ n ih_2 =>
      intro w f hms_2 hw hv H locs hP hD hS ls hl
      refine lv_iload_n hx hb dX2_priceIns_2 rfl (lv_at hl 3 rfl) ?_
      refine lv_bipush (v := nI 12) hx hb dX2_priceIns_3 (by decide) ?_
      refine lv_icmp_ge (tgt := 98) hx hb dX2_priceIns_5 (by decide) (fun c_1 => ?_) (fun c_1 => ?_)
      · skip
        have c_1 := (nI_leI (by omega) (by omega)).mp c_1
        have hfin : f = prN ri ro p1 p2 0 12 nu := by rw [hv, show 12 - w = 0 by omega]; rfl
        clear hv
        subst hfin
        refine lv_aload_n hx hb dX2_priceIns_98 rfl (lv_at hl 0 rfl) ?_
        refine lv_iconst (v := nI 1) hx hb dX2_priceIns_99 (by decide) ?_
        refine k_put hx hb hts hown hK hP hD hS iw_X2_priceIns_X2 rfl tyX2 tyX2_ok nmX2 0 0 fm_X2_priceIns_19 (by decide) rfl rfl rfl rfl rfl (Nat.le_of_ble_eq_true rfl) dX2_priceIns_100 (fun H locs hP hD hS => ?_)
        have hP : va_P g.1 vwCl [(r0, .inr (2, [.int (nI 1), .int (nI ro), .ref (rn), .ref (rp)])), (rn, aI g 48 ((prN ri ro p1 p2 0 12 nu))), (rp, aZ g 12 pt)] H := hP
        have hD : va_D A [(r0, .inr (2, [.int (nI 1), .int (nI ro), .ref (rn), .ref (rp)])), (rn, aI g 48 ((prN ri ro p1 p2 0 12 nu))), (rp, aZ g 12 pt)] := hD
        exact ret dX2_priceIns_103 () (trivial) hP hD hS
      · skip
        have c_1 := mt (nI_leI (by omega) (by omega)).mpr c_1
        refine lv_iload_n hx hb dX2_priceIns_8 rfl (lv_at hl 1 rfl) ?_
        refine lv_aload_n hx hb dX2_priceIns_9 rfl (lv_at hl 0 rfl) ?_
        refine lv_iload_n hx hb dX2_priceIns_10 rfl (lv_at hl 3 rfl) ?_
        refine lv_iconst (v := nI 0) hx hb dX2_priceIns_11 (by decide) ?_
        refine go_i (wc := [(r0, .inr (2, [.int (nI ri), .int (nI ro), .ref (rn), .ref (rp)])), (rn, aI g 48 f), (rp, aZ g 12 pt)]) (wr := []) hP hD hS hA [0, 1, 2] [] rfl rfl rfl rfl (by decide) (fun hPc hDc => rn_V (As := [.int (nI w), .int (nI 0)]) (rest := [.int (p1)]) ⟨hx, hb, hml, hown, hts⟩ ((c_X2_of l g r0 rn rp ri ro f pt w 0 (by omega) (by omega)) _) (cwV 2 hts gX2_priceIns_X2_of rfl rfl rfl (by decide +kernel) ⟨Nat.le_of_ble_eq_true rfl, Nat.le_of_ble_eq_true rfl⟩) hK hN hPc hDc 0 rfl rfl rfl rfl hl.1 (Nat.le_of_ble_eq_true rfl) dX2_priceIns_12 ⟨Nat.le_of_ble_eq_true rfl, Nat.le_of_ble_eq_true rfl⟩) ?_
        intro r_2 u_3 H locs h_4 hP hD hS
        have hP : va_P g.1 vwCl [(r0, .inr (2, [.int (nI ri), .int (nI ro), .ref (rn), .ref (rp)])), (rn, aI g 48 f), (rp, aZ g 12 pt)] H := hP.sub [0, 1, 2] rfl
        have hD : va_D A [(r0, .inr (2, [.int (nI ri), .int (nI ro), .ref (rn), .ref (rp)])), (rn, aI g 48 f), (rp, aZ g 12 pt)] := hD.sub [0, 1, 2] rfl rfl
        have h_4 : r_2 = f (w * 4 + 0) := h_4
        subst h_4
        refine lv_imul hx hb dX2_priceIns_15 ?_
        refine lv_istore (lv' := [(4, .int (p1 * (f (w * 4 + 0)))), (0, .ref (r0)), (1, .int (p1)), (2, .int (p2)), (3, .int (nI w))]) hx hb dX2_priceIns_16 hl (by decide) rfl (fun ls hl => ?_)
        refine lv_aload_n hx hb dX2_priceIns_18 rfl (lv_at hl 1 rfl) ?_
        refine k_get hx hb hts hown hK hP iw_X2_priceIns_X2 rfl 0 0 fm_X2_priceIns_19 (by decide) rfl rfl dX2_priceIns_19 ?_
        refine lv_iconst (v := nI 2) hx hb dX2_priceIns_22 (by decide) ?_
        have lp_39 : ∀ (pr : Int32), pr = prV f ri p1 p2 w → ∀ (H : Heap) (locs : List Loc), va_P g.1 vwCl [(r0, .inr (2, [.int (nI ri), .int (nI ro), .ref (rn), .ref (rp)])), (rn, aI g 48 f), (rp, aZ g 12 pt)] H → va_D A [(r0, .inr (2, [.int (nI ri), .int (nI ro), .ref (rn), .ref (rp)])), (rn, aI g 48 f), (rp, aZ g 12 pt)] → va_S A s.heap H locs → ∀ ls : Array Slot, lv_has ls 6 [(0, .ref (r0)), (1, .int (p1)), (2, .int (p2)), (3, .int (nI w)), (4, .int (pr))] → W p l e { frames := 1, cells := 0, slots := 0, locals := 22 } s m args below meth c H locs 0 0 Q (F0 m 39 ls []) := by
          intro pr hpr H locs hP hD hS ls hl
          refine lv_iconst (v := nI 0) hx hb dX2_priceIns_39 (by decide) ?_
          refine lv_istore (lv' := [(5, .int (nI 0)), (0, .ref (r0)), (1, .int (p1)), (2, .int (p2)), (3, .int (nI w)), (4, .int (pr))]) hx hb dX2_priceIns_40 hl (by decide) rfl (fun ls hl => ?_)
          have lp_42 : ∀ (n : Nat) (k : Nat) (h : Nat → Int32), ro - k < n → k ≤ 2 → shI w ri 0 ro f = shI w ri k (ro - k) h → ∀ (H : Heap) (locs : List Loc), va_P g.1 vwCl [(r0, .inr (2, [.int (nI ri), .int (nI ro), .ref (rn), .ref (rp)])), (rn, aI g 48 h), (rp, aZ g 12 pt)] H → va_D A [(r0, .inr (2, [.int (nI ri), .int (nI ro), .ref (rn), .ref (rp)])), (rn, aI g 48 h), (rp, aZ g 12 pt)] → va_S A s.heap H locs → ∀ ls : Array Slot, lv_has ls 6 [(0, .ref (r0)), (1, .int (p1)), (2, .int (p2)), (3, .int (nI w)), (4, .int (pr)), (5, .int (nI k))] → W p l e { frames := 1, cells := 0, slots := 0, locals := 22 } s m args below meth c H locs 0 0 Q (F0 m 42 ls []) := by
            intro n
            induction n with
            | zero =>
              intro k h hms
              omega
            | succ n ih_42 =>
              intro k h hms_42 hk hI H locs hP hD hS ls hl
              refine lv_iload hx hb dX2_priceIns_42 (lv_at hl 5 rfl) ?_
              refine lv_aload_n hx hb dX2_priceIns_44 rfl (lv_at hl 0 rfl) ?_
              refine k_get hx hb hts hown hK hP iw_X2_priceIns_X2 rfl 0 1 fm_X2_priceIns_23 (by decide) rfl rfl dX2_priceIns_45 ?_
              refine lv_icmp_ge (tgt := 82) hx hb dX2_priceIns_48 (by decide) (fun c_5 => ?_) (fun c_5 => ?_)
              · skip
                have c_5 := (nI_leI (by omega) (by omega)).mp c_5
                have hfin : shI w ri 0 ro f = h := by rw [hI, show ro - k = 0 by omega]; rfl
                have hv2 : prN ri ro p1 p2 0 12 nu = prN ri ro p1 p2 (w + 1) (12 - (w + 1)) (upd h (w * 4) pr) := by rw [hv, show 12 - w = (12 - (w + 1)) + 1 by omega, prN, prR, hfin, hpr]
                refine lv_aload_n hx hb dX2_priceIns_82 rfl (lv_at hl 0 rfl) ?_
                refine k_get hx hb hts hown hK hP iw_X2_priceIns_X2 rfl 0 2 fm_X2_priceIns_9 (by decide) rfl rfl dX2_priceIns_83 ?_
                refine lv_iload_n hx hb dX2_priceIns_86 rfl (lv_at hl 3 rfl) ?_
                refine lv_iconst (v := nI 4) hx hb dX2_priceIns_87 (by decide) ?_
                refine lv_imul hx hb dX2_priceIns_88 ?_
                refine k_ei (y := nI (w * 4)) (pk_mul _ _) ?_
                refine lv_iload hx hb dX2_priceIns_89 (lv_at hl 4 rfl) ?_
                refine k_iast hx hb hK hP hD hS 1 rfl (by omega) (by omega) dX2_priceIns_91 (fun H locs hP hD hS => ?_)
                have hP : va_P g.1 vwCl [(r0, .inr (2, [.int (nI ri), .int (nI ro), .ref (rn), .ref (rp)])), (rn, aI g 48 (upd h (w * 4) pr)), (rp, aZ g 12 pt)] H := hP
                have hD : va_D A [(r0, .inr (2, [.int (nI ri), .int (nI ro), .ref (rn), .ref (rp)])), (rn, aI g 48 (upd h (w * 4) pr)), (rp, aZ g 12 pt)] := hD
                refine lv_iinc (v := nI (w + 1)) (lv' := [(3, .int (nI (w + 1))), (0, .ref (r0)), (1, .int (p1)), (2, .int (p2)), (4, .int (pr)), (5, .int (nI k))]) hx hb dX2_priceIns_92 hl (k := 3) rfl (nI_inc1 w) (by decide) rfl (fun ls hl => ?_)
                refine lv_goto (tgt := 2) hx hb dX2_priceIns_95 (by decide) ?_
                exact ih_2 (w + 1) (upd h (w * 4) pr) (by omega) (by omega) hv2 _ _ hP hD hS ls (lv_sub hl [1, 2, 3, 0] rfl)
              · skip
                have c_5 := mt (nI_leI (by omega) (by omega)).mpr c_5
                refine lv_aload_n hx hb dX2_priceIns_51 rfl (lv_at hl 0 rfl) ?_
                refine k_get hx hb hts hown hK hP iw_X2_priceIns_X2 rfl 0 2 fm_X2_priceIns_9 (by decide) rfl rfl dX2_priceIns_52 ?_
                refine lv_iload_n hx hb dX2_priceIns_55 rfl (lv_at hl 3 rfl) ?_
                refine lv_iconst (v := nI 4) hx hb dX2_priceIns_56 (by decide) ?_
                refine lv_imul hx hb dX2_priceIns_57 ?_
                refine k_ei (y := nI (w * 4)) (pk_mul _ _) ?_
                refine lv_iconst (v := nI 1) hx hb dX2_priceIns_58 (by decide) ?_
                refine lv_iadd hx hb dX2_priceIns_59 ?_
                refine k_ei (y := nI (w * 4 + 1)) (nI_add _ _) ?_
                refine lv_iload hx hb dX2_priceIns_60 (lv_at hl 5 rfl) ?_
                refine lv_iadd hx hb dX2_priceIns_62 ?_
                refine k_ei (y := nI (w * 4 + 1 + k)) (nI_add _ _) ?_
                refine lv_aload_n hx hb dX2_priceIns_63 rfl (lv_at hl 0 rfl) ?_
                refine lv_iload_n hx hb dX2_priceIns_64 rfl (lv_at hl 3 rfl) ?_
                refine lv_aload_n hx hb dX2_priceIns_65 rfl (lv_at hl 0 rfl) ?_
                refine k_get hx hb hts hown hK hP iw_X2_priceIns_X2 rfl 0 0 fm_X2_priceIns_19 (by decide) rfl rfl dX2_priceIns_66 ?_
                refine lv_iload hx hb dX2_priceIns_69 (lv_at hl 5 rfl) ?_
                refine lv_iadd hx hb dX2_priceIns_71 ?_
                refine k_ei (y := nI (ri + k)) (nI_add _ _) ?_
                refine go_i (wc := [(r0, .inr (2, [.int (nI ri), .int (nI ro), .ref (rn), .ref (rp)])), (rn, aI g 48 h), (rp, aZ g 12 pt)]) (wr := []) hP hD hS hA [0, 1, 2] [] rfl rfl rfl rfl (by decide) (fun hPc hDc => rn_V (As := [.int (nI w), .int (nI (ri + k))]) (rest := [.int (nI (w * 4 + 1 + k)), .ref (rn)]) ⟨hx, hb, hml, hown, hts⟩ ((c_X2_of l g r0 rn rp ri ro h pt w (ri + k) (by omega) (by omega)) _) (cwV 2 hts gX2_priceIns_X2_of rfl rfl rfl (by decide +kernel) ⟨Nat.le_of_ble_eq_true rfl, Nat.le_of_ble_eq_true rfl⟩) hK hN hPc hDc 0 rfl rfl rfl rfl hl.1 (Nat.le_of_ble_eq_true rfl) dX2_priceIns_72 ⟨Nat.le_of_ble_eq_true rfl, Nat.le_of_ble_eq_true rfl⟩) ?_
                intro r_6 u_7 H locs h_8 hP hD hS
                have hP : va_P g.1 vwCl [(r0, .inr (2, [.int (nI ri), .int (nI ro), .ref (rn), .ref (rp)])), (rn, aI g 48 h), (rp, aZ g 12 pt)] H := hP.sub [0, 1, 2] rfl
                have hD : va_D A [(r0, .inr (2, [.int (nI ri), .int (nI ro), .ref (rn), .ref (rp)])), (rn, aI g 48 h), (rp, aZ g 12 pt)] := hD.sub [0, 1, 2] rfl rfl
                have h_8 : r_6 = h (w * 4 + (ri + k)) := h_8
                subst h_8
                refine k_iast hx hb hK hP hD hS 1 rfl (by omega) (by omega) dX2_priceIns_75 (fun H locs hP hD hS => ?_)
                have hP : va_P g.1 vwCl [(r0, .inr (2, [.int (nI ri), .int (nI ro), .ref (rn), .ref (rp)])), (rn, aI g 48 (upd h (w * 4 + 1 + k) (h (w * 4 + (ri + k))))), (rp, aZ g 12 pt)] H := hP
                have hD : va_D A [(r0, .inr (2, [.int (nI ri), .int (nI ro), .ref (rn), .ref (rp)])), (rn, aI g 48 (upd h (w * 4 + 1 + k) (h (w * 4 + (ri + k))))), (rp, aZ g 12 pt)] := hD
                refine lv_iinc (v := nI (k + 1)) (lv' := [(5, .int (nI (k + 1))), (0, .ref (r0)), (1, .int (p1)), (2, .int (p2)), (3, .int (nI w)), (4, .int (pr))]) hx hb dX2_priceIns_76 hl (k := 5) rfl (nI_inc1 k) (by decide) rfl (fun ls hl => ?_)
                refine lv_goto (tgt := 42) hx hb dX2_priceIns_79 (by decide) ?_
                exact ih_42 (k + 1) (upd h (w * 4 + 1 + k) (h (w * 4 + (ri + k)))) (by omega) (by omega) (by rw [hI, show ro - k = (ro - (k + 1)) + 1 by omega, shI]) _ _ hP hD hS ls (lv_sub hl [1, 2, 3, 4, 5, 0] rfl)
          exact lp_42 (ro - 0 + 1) 0 f (by omega) (by omega) rfl _ _ hP hD hS ls (lv_sub hl [1, 2, 3, 4, 5, 0] rfl)
        refine lv_icmp_ne (tgt := 39) hx hb dX2_priceIns_23 (by decide) (fun c_9 => ?_) (fun c_9 => ?_)
        · skip
          have c_9 := mt (nI_eq (by omega) (by omega)).mpr c_9
          have hp : p1 * f (w * 4 + 0) = prV f ri p1 p2 w := by rw [prV, if_neg c_9]; rfl
          exact lp_39 (p1 * (f (w * 4 + 0))) hp _ _ hP hD hS ls (lv_sub hl [1, 2, 3, 4, 0] rfl)
        · skip
          have c_9 := (nI_eq (by omega) (by omega)).mp c_9
          have hp := c_9
          refine lv_iload hx hb dX2_priceIns_26 (lv_at hl 0 rfl) ?_
          refine lv_iload_n hx hb dX2_priceIns_28 rfl (lv_at hl 3 rfl) ?_
          refine lv_aload_n hx hb dX2_priceIns_29 rfl (lv_at hl 1 rfl) ?_
          refine lv_iload_n hx hb dX2_priceIns_30 rfl (lv_at hl 4 rfl) ?_
          refine lv_iconst (v := nI 1) hx hb dX2_priceIns_31 (by decide) ?_
          refine go_i (wc := [(r0, .inr (2, [.int (nI ri), .int (nI ro), .ref (rn), .ref (rp)])), (rn, aI g 48 f), (rp, aZ g 12 pt)]) (wr := []) hP hD hS hA [0, 1, 2] [] rfl rfl rfl rfl (by decide) (fun hPc hDc => rn_V (As := [.int (nI w), .int (nI 1)]) (rest := [.int (p2), .int (p1 * (f (w * 4 + 0)))]) ⟨hx, hb, hml, hown, hts⟩ ((c_X2_of l g r0 rn rp ri ro f pt w 1 (by omega) (by omega)) _) (cwV 2 hts gX2_priceIns_X2_of rfl rfl rfl (by decide +kernel) ⟨Nat.le_of_ble_eq_true rfl, Nat.le_of_ble_eq_true rfl⟩) hK hN hPc hDc 0 rfl rfl rfl rfl hl.1 (Nat.le_of_ble_eq_true rfl) dX2_priceIns_32 ⟨Nat.le_of_ble_eq_true rfl, Nat.le_of_ble_eq_true rfl⟩) ?_
          intro r_10 u_11 H locs h_12 hP hD hS
          have hP : va_P g.1 vwCl [(r0, .inr (2, [.int (nI ri), .int (nI ro), .ref (rn), .ref (rp)])), (rn, aI g 48 f), (rp, aZ g 12 pt)] H := hP.sub [0, 1, 2] rfl
          have hD : va_D A [(r0, .inr (2, [.int (nI ri), .int (nI ro), .ref (rn), .ref (rp)])), (rn, aI g 48 f), (rp, aZ g 12 pt)] := hD.sub [0, 1, 2] rfl rfl
          have h_12 : r_10 = f (w * 4 + 1) := h_12
          subst h_12
          refine lv_imul hx hb dX2_priceIns_35 ?_
          refine lv_iadd hx hb dX2_priceIns_36 ?_
          refine k_ei (y := prV f ri p1 p2 w) (by rw [prV, if_pos hp]; rfl) ?_
          refine lv_istore (lv' := [(4, .int (prV f ri p1 p2 w)), (0, .ref (r0)), (1, .int (p1)), (2, .int (p2)), (3, .int (nI w))]) hx hb dX2_priceIns_37 hl (by decide) rfl (fun ls hl => ?_)
          exact lp_39 (prV f ri p1 p2 w) rfl _ _ hP hD hS ls (lv_sub hl [1, 2, 3, 4, 0] rfl)
  exact lp_2 (12 - 0 + 1) 0 nu (by omega) (by omega) rfl _ _ hP hD hS ls (lv_sub hl [1, 2, 3, 0] rfl)
theorem iw_X2_copy_X2 : ∀ w ∈ wsX20, w ∈ wsX2_copy := by decide +kernel
theorem fm_X2_copy_19 : Cond.fieldLink RX2 19 "EdgeBench$Rows" "ins" "I" ∈ wsX2_copy := by decide +kernel
theorem fm_X2_copy_23 : Cond.fieldLink RX2 23 "EdgeBench$Rows" "outs" "I" ∈ wsX2_copy := by decide +kernel
theorem fm_X2_copy_9 : Cond.fieldLink RX2 9 "EdgeBench$Rows" "number" "[I" ∈ wsX2_copy := by decide +kernel
theorem fm_X2_copy_15 : Cond.fieldLink RX2 15 "EdgeBench$Rows" "part" "[Z" ∈ wsX2_copy := by decide +kernel
set_option maxHeartbeats 4000000 in
set_option maxRecDepth 100000 in
theorem c_X2_copy (l : Launch) (g : Gt) (r0 : Nat) (rn : Nat) (rp : Nat) (ri : Nat) (ro : Nat) (nu : Nat → Int32) (pt : Nat → Int32) (s0 : Nat) (sn : Nat) (sp : Nat) (si : Nat) (so : Nat) (mu : Nat → Int32) (qt : Nat → Int32) (h01 : ∀ j : Nat, qt j = 0 ∨ qt j = 1) : CV l yX2_copy wsX2_copy { frames := 1, cells := 0, slots := 0, locals := 60 } g [.ref (r0), .ref (s0)] [(r0, .inr (2, [.int (nI ri), .int (nI ro), .ref (rn), .ref (rp)])), (rn, aI g 48 nu), (rp, aZ g 12 pt), (s0, .inr (2, [.int (nI si), .int (nI so), .ref (sn), .ref (sp)])), (sn, aI g 48 mu), (sp, aZ g 12 qt)] (fun (zu : Unit) => True) (fun (zu : Unit) => [(r0, .inr (2, [.int (nI si), .int (nI so), .ref (rn), .ref (rp)])), (rn, aI g 48 mu), (rp, aZ g 12 qt), (s0, .inr (2, [.int (nI si), .int (nI so), .ref (sn), .ref (sp)])), (sn, aI g 48 mu), (sp, aZ g 12 qt)]) 0 0 := by
  refine ent_v (cc := cX2_copy) (maxL := 3) (by decide) rfl (Nat.le_of_ble_eq_true rfl) ?_
  intro p e s m below meth c A args Q hE ret ls hl
  obtain ⟨hx, hb, hml, hown, hts, hnm, hA, hP, hD, hK, hN⟩ := hE
  have hS : va_S A s.heap s.heap [] := va_S.rf
  have hl : lv_has ls 3 [(0, .ref (r0)), (1, .ref (s0))] := hl
  have hP : va_P g.1 vwCl [(r0, .inr (2, [.int (nI ri), .int (nI ro), .ref (rn), .ref (rp)])), (rn, aI g 48 nu), (rp, aZ g 12 pt), (s0, .inr (2, [.int (nI si), .int (nI so), .ref (sn), .ref (sp)])), (sn, aI g 48 mu), (sp, aZ g 12 qt)] s.heap := hP
  refine lv_aload_n hx hb dX2_copy_0 rfl (lv_at hl 0 rfl) ?_
  refine lv_aload_n hx hb dX2_copy_1 rfl (lv_at hl 1 rfl) ?_
  refine k_get hx hb hts hown hK hP iw_X2_copy_X2 rfl 3 0 fm_X2_copy_19 (by decide) rfl rfl dX2_copy_2 ?_
  refine k_put hx hb hts hown hK hP hD hS iw_X2_copy_X2 rfl tyX2 tyX2_ok nmX2 0 0 fm_X2_copy_19 (by decide) rfl rfl rfl rfl rfl (Nat.le_of_ble_eq_true rfl) dX2_copy_5 (fun H locs hP hD hS => ?_)
  have hP : va_P g.1 vwCl [(r0, .inr (2, [.int (nI si), .int (nI ro), .ref (rn), .ref (rp)])), (rn, aI g 48 nu), (rp, aZ g 12 pt), (s0, .inr (2, [.int (nI si), .int (nI so), .ref (sn), .ref (sp)])), (sn, aI g 48 mu), (sp, aZ g 12 qt)] H := hP
  have hD : va_D A [(r0, .inr (2, [.int (nI si), .int (nI ro), .ref (rn), .ref (rp)])), (rn, aI g 48 nu), (rp, aZ g 12 pt), (s0, .inr (2, [.int (nI si), .int (nI so), .ref (sn), .ref (sp)])), (sn, aI g 48 mu), (sp, aZ g 12 qt)] := hD
  refine lv_aload_n hx hb dX2_copy_8 rfl (lv_at hl 0 rfl) ?_
  refine lv_aload_n hx hb dX2_copy_9 rfl (lv_at hl 1 rfl) ?_
  refine k_get hx hb hts hown hK hP iw_X2_copy_X2 rfl 3 1 fm_X2_copy_23 (by decide) rfl rfl dX2_copy_10 ?_
  refine k_put hx hb hts hown hK hP hD hS iw_X2_copy_X2 rfl tyX2 tyX2_ok nmX2 0 1 fm_X2_copy_23 (by decide) rfl rfl rfl rfl rfl (Nat.le_of_ble_eq_true rfl) dX2_copy_13 (fun H locs hP hD hS => ?_)
  have hP : va_P g.1 vwCl [(r0, .inr (2, [.int (nI si), .int (nI so), .ref (rn), .ref (rp)])), (rn, aI g 48 nu), (rp, aZ g 12 pt), (s0, .inr (2, [.int (nI si), .int (nI so), .ref (sn), .ref (sp)])), (sn, aI g 48 mu), (sp, aZ g 12 qt)] H := hP
  have hD : va_D A [(r0, .inr (2, [.int (nI si), .int (nI so), .ref (rn), .ref (rp)])), (rn, aI g 48 nu), (rp, aZ g 12 pt), (s0, .inr (2, [.int (nI si), .int (nI so), .ref (sn), .ref (sp)])), (sn, aI g 48 mu), (sp, aZ g 12 qt)] := hD
  refine lv_aload_n hx hb dX2_copy_16 rfl (lv_at hl 1 rfl) ?_
  refine k_get hx hb hts hown hK hP iw_X2_copy_X2 rfl 3 2 fm_X2_copy_9 (by decide) rfl rfl dX2_copy_17 ?_
  refine lv_iconst (v := nI 0) hx hb dX2_copy_20 (by decide) ?_
  refine lv_aload_n hx hb dX2_copy_21 rfl (lv_at hl 0 rfl) ?_
  refine k_get hx hb hts hown hK hP iw_X2_copy_X2 rfl 0 2 fm_X2_copy_9 (by decide) rfl rfl dX2_copy_22 ?_
  refine lv_iconst (v := nI 0) hx hb dX2_copy_25 (by decide) ?_
  refine lv_bipush (v := nI 48) hx hb dX2_copy_26 (by decide) ?_
  refine va_copyi hx hb (hml.trans hl.1.symm) hown (hts (.methodLink RX2 26 arraycopyName) (by decide +kernel)) (hts (.native arraycopyName) (by decide +kernel)) (hts (.static arraycopyName) (by decide +kernel)) (hts (.initialized "java/lang/System") (by decide +kernel)) hK hP hD hS 4 1 0 0 rfl rfl rfl rfl rfl (by decide) (by decide) (by decide) (by decide) (by decide) (fun _ _ => rfl) (Nat.le_of_ble_eq_true rfl) (Nat.le_of_ble_eq_true rfl) dX2_copy_28 (fun H locs hP hD hS => ?_)
  have hP : va_P g.1 vwCl [(r0, .inr (2, [.int (nI si), .int (nI so), .ref (rn), .ref (rp)])), (rn, aI g 48 (va_cpy mu nu 0 0 48)), (rp, aZ g 12 pt), (s0, .inr (2, [.int (nI si), .int (nI so), .ref (sn), .ref (sp)])), (sn, aI g 48 mu), (sp, aZ g 12 qt)] H := hP
  have hD : va_D A [(r0, .inr (2, [.int (nI si), .int (nI so), .ref (rn), .ref (rp)])), (rn, aI g 48 (va_cpy mu nu 0 0 48)), (rp, aZ g 12 pt), (s0, .inr (2, [.int (nI si), .int (nI so), .ref (sn), .ref (sp)])), (sn, aI g 48 mu), (sp, aZ g 12 qt)] := hD
  obtain ⟨hP, hD⟩ := cg_I (h := mu) hP hD 1 rfl (fun j hj => pk_cpy_in (by omega) (by omega) |>.trans (by congr 1; omega))
  have hP : va_P g.1 vwCl [(r0, .inr (2, [.int (nI si), .int (nI so), .ref (rn), .ref (rp)])), (rn, aI g 48 mu), (rp, aZ g 12 pt), (s0, .inr (2, [.int (nI si), .int (nI so), .ref (sn), .ref (sp)])), (sn, aI g 48 mu), (sp, aZ g 12 qt)] H := hP
  have hD : va_D A [(r0, .inr (2, [.int (nI si), .int (nI so), .ref (rn), .ref (rp)])), (rn, aI g 48 mu), (rp, aZ g 12 pt), (s0, .inr (2, [.int (nI si), .int (nI so), .ref (sn), .ref (sp)])), (sn, aI g 48 mu), (sp, aZ g 12 qt)] := hD
  refine lv_iconst (v := nI 0) hx hb dX2_copy_31 (by decide) ?_
  refine lv_istore_n (lv' := [(2, .int (nI 0)), (0, .ref (r0)), (1, .ref (s0))]) hx hb dX2_copy_32 rfl hl (by decide) rfl (fun ls hl => ?_)
  have lp_33 : ∀ (n : Nat) (k : Nat), 12 - k < n → k ≤ 12 → ∀ (H : Heap) (locs : List Loc), va_P g.1 vwCl [(r0, .inr (2, [.int (nI si), .int (nI so), .ref (rn), .ref (rp)])), (rn, aI g 48 mu), (rp, aZ g 12 (pI pt 0 qt k)), (s0, .inr (2, [.int (nI si), .int (nI so), .ref (sn), .ref (sp)])), (sn, aI g 48 mu), (sp, aZ g 12 qt)] H → va_D A [(r0, .inr (2, [.int (nI si), .int (nI so), .ref (rn), .ref (rp)])), (rn, aI g 48 mu), (rp, aZ g 12 (pI pt 0 qt k)), (s0, .inr (2, [.int (nI si), .int (nI so), .ref (sn), .ref (sp)])), (sn, aI g 48 mu), (sp, aZ g 12 qt)] → va_S A s.heap H locs → ∀ ls : Array Slot, lv_has ls 3 [(0, .ref (r0)), (1, .ref (s0)), (2, .int (nI k))] → W p l e { frames := 1, cells := 0, slots := 0, locals := 60 } s m args below meth c H locs 0 0 Q (F0 m 33 ls []) := by
    intro n
    induction n with
    | zero =>
      intro k hms
      omega
    | succ n ih_33 =>
      intro k hms_33 hk H locs hP hD hS ls hl
      refine lv_iload_n hx hb dX2_copy_33 rfl (lv_at hl 2 rfl) ?_
      refine lv_bipush (v := nI 12) hx hb dX2_copy_34 (by decide) ?_
      refine lv_icmp_ge (tgt := 57) hx hb dX2_copy_36 (by decide) (fun c_1 => ?_) (fun c_1 => ?_)
      · skip
        have c_1 := (nI_leI (by omega) (by omega)).mp c_1
        obtain ⟨hP, hD⟩ := cg_Z (h := qt) hP hD 2 rfl (fun j hj => by have e := pI_in (f := pt) (a := 0) (F := qt) (k := k) (i := j) (by omega); rw [Nat.zero_add] at e; exact e)
        exact ret dX2_copy_57 () (trivial) hP hD hS
      · skip
        have c_1 := mt (nI_leI (by omega) (by omega)).mpr c_1
        refine lv_aload_n hx hb dX2_copy_39 rfl (lv_at hl 0 rfl) ?_
        refine k_get hx hb hts hown hK hP iw_X2_copy_X2 rfl 0 3 fm_X2_copy_15 (by decide) rfl rfl dX2_copy_40 ?_
        refine lv_iload_n hx hb dX2_copy_43 rfl (lv_at hl 2 rfl) ?_
        refine lv_aload_n hx hb dX2_copy_44 rfl (lv_at hl 1 rfl) ?_
        refine k_get hx hb hts hown hK hP iw_X2_copy_X2 rfl 3 3 fm_X2_copy_15 (by decide) rfl rfl dX2_copy_45 ?_
        refine lv_iload_n hx hb dX2_copy_48 rfl (lv_at hl 2 rfl) ?_
        refine k_zald hx hb hK hP 5 rfl (by omega) (by omega) dX2_copy_49 ?_
        refine k_zast hx hb hK hP hD hS 2 rfl (by omega) (by omega) (h01 k) dX2_copy_50 (fun H locs hP hD hS => ?_)
        have hP : va_P g.1 vwCl [(r0, .inr (2, [.int (nI si), .int (nI so), .ref (rn), .ref (rp)])), (rn, aI g 48 mu), (rp, aZ g 12 (upd (pI pt 0 qt k) k (qt k))), (s0, .inr (2, [.int (nI si), .int (nI so), .ref (sn), .ref (sp)])), (sn, aI g 48 mu), (sp, aZ g 12 qt)] H := hP
        have hD : va_D A [(r0, .inr (2, [.int (nI si), .int (nI so), .ref (rn), .ref (rp)])), (rn, aI g 48 mu), (rp, aZ g 12 (upd (pI pt 0 qt k) k (qt k))), (s0, .inr (2, [.int (nI si), .int (nI so), .ref (sn), .ref (sp)])), (sn, aI g 48 mu), (sp, aZ g 12 qt)] := hD
        have e_2 : upd (pI pt 0 qt k) k (qt k) = pI pt 0 qt (k + 1) := by rw [← pI_succ pt 0 qt k (x := qt k) rfl, Nat.zero_add]
        rw [e_2] at hP hD
        refine lv_iinc (v := nI (k + 1)) (lv' := [(2, .int (nI (k + 1))), (0, .ref (r0)), (1, .ref (s0))]) hx hb dX2_copy_51 hl (k := 2) rfl (nI_inc1 k) (by decide) rfl (fun ls hl => ?_)
        refine lv_goto (tgt := 33) hx hb dX2_copy_54 (by decide) ?_
        exact ih_33 (k + 1) (by omega) (by omega) _ _ hP hD hS ls (lv_sub hl [1, 2, 0] rfl)
  exact lp_33 (12 - 0 + 1) 0 (by omega) (by omega) _ _ (by rw [pI_0]; exact hP) (by rw [pI_0]; exact hD) hS ls (lv_sub hl [1, 2, 0] rfl)
