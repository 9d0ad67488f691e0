/-! what the methods compute, over the machine's own numbers -/
def bI (b : Bool) : Int32 := if b then 1 else 0
theorem bI01 (b : Bool) : bI b = 0 ∨ bI b = 1 := by cases b <;> simp [bI]
theorem bI_eq0 {b : Bool} : bI b = 0 ↔ b = false := by cases b <;> decide
theorem bI_ne0 {b : Bool} : ¬ bI b = 0 ↔ b = true := by cases b <;> decide
def absL (x : Int64) : Int64 := if x < 0 then -x else x
def gcdL (a b : Int64) : Nat → Int64
  | 0 => a
  | n + 1 => if b = 0 then a else gcdL b (a - a / b * b) n
def allZ (nu : Nat → Int32) (i : Nat) : Nat → Bool
  | 0 => true
  | n + 1 => if nu i = 0 then allZ nu (i + 1) n else false
def insW (ray : Nat → Int64) (nu : Nat → Int32) (r w : Nat) : Nat → Int64
  | 0 => 0
  | k + 1 => insW ray nu r w k + ray (r * 5 + k) * (nu (w * 4 + k)).toInt64
def outsW (ray : Nat → Int64) (nu : Nat → Int32) (r w t a : Nat) : Nat → Int64
  | 0 => ray (r * 5 + t)
  | j + 1 => outsW ray nu r w t a j + ray (r * 5 + (a + j)) * (nu (w * 4 + (a + j))).toInt64
theorem iw_X2_of_X2 : ∀ w ∈ wsX20, w ∈ wsX2_of := by decide +kernel
theorem fm_X2_of_9 : Cond.fieldLink RX2 9 "EdgeBench$Rows" "number" "[I" ∈ wsX2_of := by decide +kernel
set_option maxHeartbeats 4000000 in
set_option maxRecDepth 100000 in
theorem c_X2_of (l : Launch) (g : Gt) (r0 : Nat) (rn : Nat) (rp : Nat) (ri : Nat) (ro : Nat) (nu : Nat → Int32) (pt : Nat → Int32) (w : Nat) (t : Nat) (hw : w < 12) (ht : t < 4) : CI l yX2_of wsX2_of { frames := 0, cells := 0, slots := 0, locals := 0 } g [.ref (r0), .int (nI w), .int (nI t)] [(r0, .inr (2, [.int (nI ri), .int (nI ro), .ref (rn), .ref (rp)])), (rn, aI g 48 nu), (rp, aZ g 12 pt)] (fun zr (zu : Unit) => zr = nu (w * 4 + t)) (fun (zu : Unit) => [(r0, .inr (2, [.int (nI ri), .int (nI ro), .ref (rn), .ref (rp)])), (rn, aI g 48 nu), (rp, aZ g 12 pt)]) 0 0 := by
  refine ent_i (cc := cX2_of) (maxL := 3) (by decide) rfl (Nat.le_of_ble_eq_true rfl) ?_
  intro p e s m below meth c A args Q hE ret ls hl
  obtain ⟨hx, hb, hml, hown, hts, hnm, hA, hP, hD, hK, hN⟩ := hE
  have hS : va_S A s.heap s.heap [] := va_S.rf
  have hl : lv_has ls 3 [(0, .ref (r0)), (1, .int (nI w)), (2, .int (nI t))] := hl
  have hP : va_P g.1 vwCl [(r0, .inr (2, [.int (nI ri), .int (nI ro), .ref (rn), .ref (rp)])), (rn, aI g 48 nu), (rp, aZ g 12 pt)] s.heap := hP
  refine lv_aload_n hx hb dX2_of_0 rfl (lv_at hl 0 rfl) ?_
  refine k_get hx hb hts hown hK hP iw_X2_of_X2 rfl 0 2 fm_X2_of_9 (by decide) rfl rfl dX2_of_1 ?_
  refine lv_iload_n hx hb dX2_of_4 rfl (lv_at hl 1 rfl) ?_
  refine lv_iconst (v := nI 4) hx hb dX2_of_5 (by decide) ?_
  refine lv_imul hx hb dX2_of_6 ?_
  refine k_ei (y := nI (w * 4)) (pk_mul _ _) ?_
  refine lv_iload_n hx hb dX2_of_7 rfl (lv_at hl 2 rfl) ?_
  refine lv_iadd hx hb dX2_of_8 ?_
  refine k_ei (y := nI (w * 4 + t)) (nI_add _ _) ?_
  refine k_iald hx hb hK hP 1 rfl (by omega) (by omega) dX2_of_9 ?_
  exact ret dX2_of_10 () (rfl) hP hD hS
set_option maxHeartbeats 4000000 in
set_option maxRecDepth 100000 in
theorem c_X3_areZero (l : Launch) (g : Gt) (an : Nat) (nu : Nat → Int32) (w : Nat) (a : Nat) (b : Nat) (hw : w < 12) (hb4 : b ≤ 4) (ha4 : a ≤ 4) : CI l yX3_areZero wsX3_areZero { frames := 0, cells := 0, slots := 0, locals := 0 } g [.ref (an), .int (nI w), .int (nI a), .int (nI b)] [(an, aI g 48 nu)] (fun zr (zu : Unit) => zr = bI (allZ nu (w * 4 + a) (b - a))) (fun (zu : Unit) => [(an, aI g 48 nu)]) 0 0 := by
  refine ent_z (cc := cX3_areZero) (maxL := 5) (by decide) rfl (Nat.le_of_ble_eq_true rfl) ?_
  intro p e s m below meth c A args Q hE ret ls hl
  obtain ⟨hx, hb, hml, hown, hts, hnm, hA, hP, hD, hK, hN⟩ := hE
  have hS : va_S A s.heap s.heap [] := va_S.rf
  have hl : lv_has ls 5 [(0, .ref (an)), (1, .int (nI w)), (2, .int (nI a)), (3, .int (nI b))] := hl
  have hP : va_P g.1 vwCl [(an, aI g 48 nu)] s.heap := hP
  refine lv_iload_n hx hb dX3_areZero_0 rfl (lv_at hl 2 rfl) ?_
  refine lv_istore (lv' := [(4, .int (nI a)), (0, .ref (an)), (1, .int (nI w)), (2, .int (nI a)), (3, .int (nI b))]) hx hb dX3_areZero_1 hl (by decide) rfl (fun ls hl => ?_)
  have lp_3 : ∀ (n : Nat) (k : Nat), b - k < n → k ≤ 4 → allZ nu (w * 4 + a) (b - a) = allZ nu (w * 4 + k) (b - k) → ∀ (H : Heap) (locs : List Loc), va_P g.1 vwCl [(an, aI g 48 nu)] H → va_D A [(an, aI g 48 nu)] → va_S A s.heap H locs → ∀ ls : Array Slot, lv_has ls 5 [(0, .ref (an)), (1, .int (nI w)), (2, .int (nI a)), (3, .int (nI b)), (4, .int (nI k))] → W p l e { frames := 0, cells := 0, slots := 0, locals := 0 } s m args below meth c H locs 0 0 Q (F0 m 3 ls []) := by
    intro n
    induction n with
    | zero =>
      intro k hms
      omega
    | succ n ih_3 =>
      intro k hms_3 hk hv H locs hP hD hS ls hl
      refine lv_iload hx hb dX3_areZero_3 (lv_at hl 4 rfl) ?_
      refine lv_iload_n hx hb dX3_areZero_5 rfl (lv_at hl 3 rfl) ?_
      refine lv_icmp_ge (tgt := 28) hx hb dX3_areZero_6 (by decide) (fun c_1 => ?_) (fun c_1 => ?_)
      · skip
        have c_1 := (nI_leI (by omega) (by omega)).mp c_1
        refine lv_iconst (v := nI 1) hx hb dX3_areZero_28 (by decide) ?_
        exact ret dX3_areZero_29 () (by rw [hv, show b - k = 0 by omega]; rfl) (by decide) hP hD hS
      · skip
        have c_1 := mt (nI_leI (by omega) (by omega)).mpr c_1
        refine lv_aload_n hx hb dX3_areZero_9 rfl (lv_at hl 0 rfl) ?_
        refine lv_iload_n hx hb dX3_areZero_10 rfl (lv_at hl 1 rfl) ?_
        refine lv_iconst (v := nI 4) hx hb dX3_areZero_11 (by decide) ?_
        refine lv_imul hx hb dX3_areZero_12 ?_
        refine k_ei (y := nI (w * 4)) (pk_mul _ _) ?_
        refine lv_iload hx hb dX3_areZero_13 (lv_at hl 4 rfl) ?_
        refine lv_iadd hx hb dX3_areZero_15 ?_
        refine k_ei (y := nI (w * 4 + k)) (nI_add _ _) ?_
        refine k_iald hx hb hK hP 0 rfl (by omega) (by omega) dX3_areZero_16 ?_
        refine lv_if_eq (tgt := 22) hx hb dX3_areZero_17 (by decide) (fun c_2 => ?_) (fun c_2 => ?_)
        · skip
          refine lv_iinc (v := nI (k + 1)) (lv' := [(4, .int (nI (k + 1))), (0, .ref (an)), (1, .int (nI w)), (2, .int (nI a)), (3, .int (nI b))]) hx hb dX3_areZero_22 hl (k := 4) rfl (nI_inc1 k) (by decide) rfl (fun ls hl => ?_)
          refine lv_goto (tgt := 3) hx hb dX3_areZero_25 (by decide) ?_
          exact ih_3 (k + 1) (by omega) (by omega) (by rw [hv, show b - k = (b - (k + 1)) + 1 by omega, allZ, if_pos c_2]; rfl) _ _ hP hD hS ls (lv_sub hl [1, 2, 3, 4, 0] rfl)
        · skip
          refine lv_iconst (v := nI 0) hx hb dX3_areZero_20 (by decide) ?_
          exact ret dX3_areZero_21 () (by rw [hv, show b - k = (b - (k + 1)) + 1 by omega, allZ, if_neg c_2]; rfl) (by decide) hP hD hS
  exact lp_3 (b - a + 1) a (by omega) (by omega) rfl _ _ hP hD hS ls (lv_sub hl [1, 2, 3, 4, 0] rfl)
theorem iw_X0_insWeighed_X0 : ∀ w ∈ wsX00, w ∈ wsX0_insWeighed := by decide +kernel
theorem fm_X0_insWeighed_28 : Cond.fieldLink RX0 28 "EdgeBench$Cone" "ins" "I" ∈ wsX0_insWeighed := by decide +kernel
theorem fm_X0_insWeighed_11 : Cond.fieldLink RX0 11 "EdgeBench$Cone" "ray" "[J" ∈ wsX0_insWeighed := by decide +kernel
set_option maxHeartbeats 4000000 in
set_option maxRecDepth 100000 in
theorem c_X0_insWeighed (l : Launch) (g : Gt) (h0 : Nat) (h5 : Nat) (h6 : Nat) (h7 : Nat) (ki : Nat) (kt : Nat) (kf : Nat) (km : Nat) (fr : Int32) (ray : Nat → Int64) (tg : Nat → Int32) (sl : Nat → Int64) (r0 : Nat) (rn : Nat) (rp : Nat) (ri : Nat) (ro : Nat) (nu : Nat → Int32) (pt : Nat → Int32) (r : Nat) (w : Nat) (hr : r < 144) (hw : w < 12) (hi : ki ≤ 2) : CL l yX0_insWeighed wsX0_insWeighed { frames := 1, cells := 0, slots := 0, locals := 22 } g [.ref (h0), .int (nI r), .ref (r0), .int (nI w)] [(h0, .inr (0, [.int (nI ki), .int (nI kt), .int (nI kf), .int (nI km), .int (fr), .ref (h5), .ref (h6), .ref (h7)])), (h5, aJ g 720 ray), (h6, aI g 144 tg), (h7, aJ g 144 sl), (r0, .inr (2, [.int (nI ri), .int (nI ro), .ref (rn), .ref (rp)])), (rn, aI g 48 nu), (rp, aZ g 12 pt)] (fun zr (zu : Unit) => zr = insW ray nu r w ki) (fun (zu : Unit) => [(h0, .inr (0, [.int (nI ki), .int (nI kt), .int (nI kf), .int (nI km), .int (fr), .ref (h5), .ref (h6), .ref (h7)])), (h5, aJ g 720 ray), (h6, aI g 144 tg), (h7, aJ g 144 sl), (r0, .inr (2, [.int (nI ri), .int (nI ro), .ref (rn), .ref (rp)])), (rn, aI g 48 nu), (rp, aZ g 12 pt)]) 0 0 := by
  refine ent_l (cc := cX0_insWeighed) (maxL := 7) (by decide) rfl (Nat.le_of_ble_eq_true rfl) ?_
  intro p e s m below meth c A args Q hE ret ls hl
  obtain ⟨hx, hb, hml, hown, hts, hnm, hA, hP, hD, hK, hN⟩ := hE
  have hS : va_S A s.heap s.heap [] := va_S.rf
  have hl : lv_has ls 7 [(0, .ref (h0)), (1, .int (nI r)), (2, .ref (r0)), (3, .int (nI w))] := hl
  have hP : va_P g.1 vwCl [(h0, .inr (0, [.int (nI ki), .int (nI kt), .int (nI kf), .int (nI km), .int (fr), .ref (h5), .ref (h6), .ref (h7)])), (h5, aJ g 720 ray), (h6, aI g 144 tg), (h7, aJ g 144 sl), (r0, .inr (2, [.int (nI ri), .int (nI ro), .ref (rn), .ref (rp)])), (rn, aI g 48 nu), (rp, aZ g 12 pt)] s.heap := hP
  refine lv_lconst (v := 0) hx hb dX0_insWeighed_0 (by decide) ?_
  refine lv_lstore (lv' := [(4, .long (0)), (0, .ref (h0)), (1, .int (nI r)), (2, .ref (r0)), (3, .int (nI w))]) hx hb dX0_insWeighed_1 hl (by decide) rfl (fun ls hl => ?_)
  refine lv_iconst (v := nI 0) hx hb dX0_insWeighed_3 (by decide) ?_
  refine lv_istore (lv' := [(6, .int (nI 0)), (4, .long (0)), (0, .ref (h0)), (1, .int (nI r)), (2, .ref (r0)), (3, .int (nI w))]) hx hb dX0_insWeighed_4 hl (by decide) rfl (fun ls hl => ?_)
  have lp_6 : ∀ (n : Nat) (k : Nat), ki - k < n → k ≤ ki → ∀ (H : Heap) (locs : List Loc), va_P g.1 vwCl [(h0, .inr (0, [.int (nI ki), .int (nI kt), .int (nI kf), .int (nI km), .int (fr), .ref (h5), .ref (h6), .ref (h7)])), (h5, aJ g 720 ray), (h6, aI g 144 tg), (h7, aJ g 144 sl), (r0, .inr (2, [.int (nI ri), .int (nI ro), .ref (rn), .ref (rp)])), (rn, aI g 48 nu), (rp, aZ g 12 pt)] H → va_D A [(h0, .inr (0, [.int (nI ki), .int (nI kt), .int (nI kf), .int (nI km), .int (fr), .ref (h5), .ref (h6), .ref (h7)])), (h5, aJ g 720 ray), (h6, aI g 144 tg), (h7, aJ g 144 sl), (r0, .inr (2, [.int (nI ri), .int (nI ro), .ref (rn), .ref (rp)])), (rn, aI g 48 nu), (rp, aZ g 12 pt)] → va_S A s.heap H locs → ∀ ls : Array Slot, lv_has ls 7 [(0, .ref (h0)), (1, .int (nI r)), (2, .ref (r0)), (3, .int (nI w)), (4, .long (insW ray nu r w k)), (6, .int (nI k))] → W p l e { frames := 1, cells := 0, slots := 0, locals := 22 } s m args below meth c H locs 0 0 Q (F0 m 6 ls []) := by
    intro n
    induction n with
    | zero =>
      intro k hms
      omega
    | succ n ih_6 =>
      intro k hms_6 hk H locs hP hD hS ls hl
      refine lv_iload hx hb dX0_insWeighed_6 (lv_at hl 5 rfl) ?_
      refine lv_aload_n hx hb dX0_insWeighed_8 rfl (lv_at hl 0 rfl) ?_
      refine k_get hx hb hts hown hK hP iw_X0_insWeighed_X0 rfl 0 0 fm_X0_insWeighed_28 (by decide) rfl rfl dX0_insWeighed_9 ?_
      refine lv_icmp_ge (tgt := 46) hx hb dX0_insWeighed_12 (by decide) (fun c_1 => ?_) (fun c_1 => ?_)
      · skip
        have c_1 := (nI_leI (by omega) (by omega)).mp c_1
        refine lv_lload hx hb dX0_insWeighed_46 (lv_at hl 4 rfl) ?_
        exact ret dX0_insWeighed_48 () (by rw [show k = ki by omega]) hP hD hS
      · skip
        have c_1 := mt (nI_leI (by omega) (by omega)).mpr c_1
        refine lv_lload hx hb dX0_insWeighed_15 (lv_at hl 4 rfl) ?_
        refine lv_aload_n hx hb dX0_insWeighed_17 rfl (lv_at hl 0 rfl) ?_
        refine k_get hx hb hts hown hK hP iw_X0_insWeighed_X0 rfl 0 5 fm_X0_insWeighed_11 (by decide) rfl rfl dX0_insWeighed_18 ?_
        refine lv_iload_n hx hb dX0_insWeighed_21 rfl (lv_at hl 1 rfl) ?_
        refine lv_iconst (v := nI 5) hx hb dX0_insWeighed_22 (by decide) ?_
        refine lv_imul hx hb dX0_insWeighed_23 ?_
        refine k_ei (y := nI (r * 5)) (pk_mul _ _) ?_
        refine lv_iload hx hb dX0_insWeighed_24 (lv_at hl 5 rfl) ?_
        refine lv_iadd hx hb dX0_insWeighed_26 ?_
        refine k_ei (y := nI (r * 5 + k)) (nI_add _ _) ?_
        refine k_lald hx hb hK hP 1 rfl (by omega) (by omega) dX0_insWeighed_27 ?_
        refine lv_aload_n hx hb dX0_insWeighed_28 rfl (lv_at hl 2 rfl) ?_
        refine lv_iload_n hx hb dX0_insWeighed_29 rfl (lv_at hl 3 rfl) ?_
        refine lv_iload hx hb dX0_insWeighed_30 (lv_at hl 5 rfl) ?_
        refine go_i (wc := [(r0, .inr (2, [.int (nI ri), .int (nI ro), .ref (rn), .ref (rp)])), (rn, aI g 48 nu), (rp, aZ g 12 pt)]) (wr := [(h0, .inr (0, [.int (nI ki), .int (nI kt), .int (nI kf), .int (nI km), .int (fr), .ref (h5), .ref (h6), .ref (h7)])), (h5, aJ g 720 ray), (h6, aI g 144 tg), (h7, aJ g 144 sl)]) hP hD hS hA [4, 5, 6] [0, 1, 2, 3] rfl rfl rfl rfl (by decide) (fun hPc hDc => rn_VN (As := [.int (nI w), .int (nI k)]) (rest := [.long (ray (r * 5 + k)), .long (insW ray nu r w k)]) ⟨hx, hb, hml, hown, hts⟩ ((c_X2_of l g r0 rn rp ri ro nu pt w k (by omega) (by omega)) _) (⟨va_cnB 2 hts gX0_insWeighed_X2_of_n59 rfl rfl rfl (hN.2 _ (List.mem_of_getElem? (i := 10) rfl)) (hts _ (by decide +kernel)) (by decide +kernel) ⟨Nat.le_of_ble_eq_true rfl, Nat.le_of_ble_eq_true rfl⟩, hts _ (by decide +kernel), hts _ (by decide +kernel)⟩) hK hN hPc hDc 0 rfl rfl rfl rfl hl.1 (Nat.le_of_ble_eq_true rfl) dX0_insWeighed_32 ⟨Nat.le_of_ble_eq_true rfl, Nat.le_of_ble_eq_true rfl⟩) ?_
        intro r_2 u_3 H locs h_4 hP hD hS
        have hP : va_P g.1 vwCl [(h0, .inr (0, [.int (nI ki), .int (nI kt), .int (nI kf), .int (nI km), .int (fr), .ref (h5), .ref (h6), .ref (h7)])), (h5, aJ g 720 ray), (h6, aI g 144 tg), (h7, aJ g 144 sl), (r0, .inr (2, [.int (nI ri), .int (nI ro), .ref (rn), .ref (rp)])), (rn, aI g 48 nu), (rp, aZ g 12 pt)] H := hP.sub [0, 1, 2, 3, 4, 5, 6] rfl
        have hD : va_D A [(h0, .inr (0, [.int (nI ki), .int (nI kt), .int (nI kf), .int (nI km), .int (fr), .ref (h5), .ref (h6), .ref (h7)])), (h5, aJ g 720 ray), (h6, aI g 144 tg), (h7, aJ g 144 sl), (r0, .inr (2, [.int (nI ri), .int (nI ro), .ref (rn), .ref (rp)])), (rn, aI g 48 nu), (rp, aZ g 12 pt)] := hD.sub [0, 1, 2, 3, 4, 5, 6] rfl rfl
        have h_4 : r_2 = nu (w * 4 + k) := h_4
        subst h_4
        refine lv_i2l hx hb dX0_insWeighed_35 rfl ?_
        refine lv_lmul hx hb dX0_insWeighed_36 ?_
        refine lv_ladd hx hb dX0_insWeighed_37 ?_
        refine lv_lstore (lv' := [(4, .long ((insW ray nu r w k) + ((ray (r * 5 + k)) * ((nu (w * 4 + k)).toInt64)))), (0, .ref (h0)), (1, .int (nI r)), (2, .ref (r0)), (3, .int (nI w)), (6, .int (nI k))]) hx hb dX0_insWeighed_38 hl (by decide) rfl (fun ls hl => ?_)
        refine lv_iinc (v := nI (k + 1)) (lv' := [(6, .int (nI (k + 1))), (4, .long ((insW ray nu r w k) + ((ray (r * 5 + k)) * ((nu (w * 4 + k)).toInt64)))), (0, .ref (h0)), (1, .int (nI r)), (2, .ref (r0)), (3, .int (nI w))]) hx hb dX0_insWeighed_40 hl (k := 5) rfl (nI_inc1 k) (by decide) rfl (fun ls hl => ?_)
        refine lv_goto (tgt := 6) hx hb dX0_insWeighed_43 (by decide) ?_
        exact ih_6 (k + 1) (by omega) (by omega) _ _ hP hD hS ls (lv_sub hl [2, 3, 4, 5, 1, 0] rfl)
  exact lp_6 (ki - 0 + 1) 0 (by omega) (by omega) _ _ hP hD hS ls (lv_sub hl [2, 3, 4, 5, 1, 0] rfl)
