theorem iw_X0_isBest_X1 : ∀ w ∈ wsX10, w ∈ wsX0_isBest := by decide +kernel
set_option maxHeartbeats 4000000 in
set_option maxRecDepth 100000 in
theorem c_X0_isBest (l : Launch) (g : Gt) (h0 : Nat) (h5 : Nat) (h6 : Nat) (h7 : Nat) (ki : Nat) (kt : Nat) (kf : Nat) (km : Nat) (fr : Int32) (ray : Nat → Int64) (tg : Nat → Int32) (sl : Nat → Int64) (r0 : Nat) (rn : Nat) (rp : Nat) (ri : Nat) (ro : Nat) (nu : Nat → Int32) (pt : Nat → Int32) (f0 : Nat) (x0 : Int64) (x1 : Int64) (r : Nat) (w : Nat) (hr : r < 144) (hw : w < 12) (hi : ki ≤ 2) (hit : ki ≤ kt) (ht : kt ≤ 4) : CI l yX0_isBest wsX0_isBest { frames := 2, cells := 0, slots := 0, locals := 48 } g [.ref (h0), .int (nI r), .ref (r0), .int (nI w), .ref (f0)] [(h0, .inr (0, [.int (nI ki), .int (nI kt), .int (nI kf), .int (nI km), .int (fr), .ref (h5), .ref (h6), .ref (h7)])), (h5, aJ g 720 ray), (h6, aI g 144 tg), (h7, aJ g 144 sl), (r0, .inr (2, [.int (nI ri), .int (nI ro), .ref (rn), .ref (rp)])), (rn, aI g 48 nu), (rp, aZ g 12 pt), (f0, .inr (1, [.long (x0), .long (x1)]))] (fun zr (zu : Unit) => zr = bI (bstB ray nu w ki kt x0 x1 r)) (fun (zu : Unit) => [(h0, .inr (0, [.int (nI ki), .int (nI kt), .int (nI kf), .int (nI km), .int (fr), .ref (h5), .ref (h6), .ref (h7)])), (h5, aJ g 720 ray), (h6, aI g 144 tg), (h7, aJ g 144 sl), (r0, .inr (2, [.int (nI ri), .int (nI ro), .ref (rn), .ref (rp)])), (rn, aI g 48 nu), (rp, aZ g 12 pt), (f0, .inr (1, [.long (x0), .long (x1)]))]) 0 0 := by
  refine ent_z (cc := cX0_isBest) (maxL := 5) (by decide) rfl (Nat.le_of_ble_eq_true rfl) ?_
  intro p e s m below meth c A args Q hE ret ls hl
  obtain ⟨hx, hb, hml, hown, hts, hnm, hA, hP, hD, hK, hN⟩ := hE
  have hS : va_S A s.heap s.heap [] := va_S.rf
  have hl : lv_has ls 5 [(0, .ref (h0)), (1, .int (nI r)), (2, .ref (r0)), (3, .int (nI w)), (4, .ref (f0))] := hl
  have hP : va_P g.1 vwCl [(h0, .inr (0, [.int (nI ki), .int (nI kt), .int (nI kf), .int (nI km), .int (fr), .ref (h5), .ref (h6), .ref (h7)])), (h5, aJ g 720 ray), (h6, aI g 144 tg), (h7, aJ g 144 sl), (r0, .inr (2, [.int (nI ri), .int (nI ro), .ref (rn), .ref (rp)])), (rn, aI g 48 nu), (rp, aZ g 12 pt), (f0, .inr (1, [.long (x0), .long (x1)]))] s.heap := hP
  refine lv_aload_n hx hb dX0_isBest_0 rfl (lv_at hl 0 rfl) ?_
  refine lv_iload_n hx hb dX0_isBest_1 rfl (lv_at hl 1 rfl) ?_
  refine lv_aload_n hx hb dX0_isBest_2 rfl (lv_at hl 2 rfl) ?_
  refine lv_iload_n hx hb dX0_isBest_3 rfl (lv_at hl 3 rfl) ?_
  refine go_l (wc := [(h0, .inr (0, [.int (nI ki), .int (nI kt), .int (nI kf), .int (nI km), .int (fr), .ref (h5), .ref (h6), .ref (h7)])), (h5, aJ g 720 ray), (h6, aI g 144 tg), (h7, aJ g 144 sl), (r0, .inr (2, [.int (nI ri), .int (nI ro), .ref (rn), .ref (rp)])), (rn, aI g 48 nu), (rp, aZ g 12 pt)]) (wr := [(f0, .inr (1, [.long (x0), .long (x1)]))]) hP hD hS hA [0, 1, 2, 3, 4, 5, 6] [7] rfl rfl rfl rfl (by decide) (fun hPc hDc => rn_V (As := [.int (nI r), .ref (r0), .int (nI w)]) (rest := []) ⟨hx, hb, hml, hown, hts⟩ ((c_X0_outsWeighed l g h0 h5 h6 h7 ki kt kf km fr ray tg sl r0 rn rp ri ro nu pt r w (by omega) (by omega) (by omega) (by omega)) _) (cwV 3 hts gX0_isBest_X0_outsWeighed rfl rfl rfl (by decide +kernel) ⟨Nat.le_of_ble_eq_true rfl, Nat.le_of_ble_eq_true rfl⟩) hK hN hPc hDc 0 rfl rfl rfl rfl hl.1 (Nat.le_of_ble_eq_true rfl) dX0_isBest_4 ⟨Nat.le_of_ble_eq_true rfl, Nat.le_of_ble_eq_true rfl⟩) ?_
  intro r_1 u_2 H locs h_3 hP hD hS
  have hP : va_P g.1 vwCl [(h0, .inr (0, [.int (nI ki), .int (nI kt), .int (nI kf), .int (nI km), .int (fr), .ref (h5), .ref (h6), .ref (h7)])), (h5, aJ g 720 ray), (h6, aI g 144 tg), (h7, aJ g 144 sl), (r0, .inr (2, [.int (nI ri), .int (nI ro), .ref (rn), .ref (rp)])), (rn, aI g 48 nu), (rp, aZ g 12 pt), (f0, .inr (1, [.long (x0), .long (x1)]))] H := hP.sub [1, 2, 3, 4, 5, 6, 7, 0] rfl
  have hD : va_D A [(h0, .inr (0, [.int (nI ki), .int (nI kt), .int (nI kf), .int (nI km), .int (fr), .ref (h5), .ref (h6), .ref (h7)])), (h5, aJ g 720 ray), (h6, aI g 144 tg), (h7, aJ g 144 sl), (r0, .inr (2, [.int (nI ri), .int (nI ro), .ref (rn), .ref (rp)])), (rn, aI g 48 nu), (rp, aZ g 12 pt), (f0, .inr (1, [.long (x0), .long (x1)]))] := hD.sub [1, 2, 3, 4, 5, 6, 7, 0] rfl rfl
  have h_3 : r_1 = outsW ray nu r w kt ki (kt - ki) := h_3
  subst h_3
  refine lv_aload hx hb dX0_isBest_7 (lv_at hl 4 rfl) ?_
  refine k_getN hx hb hts hown hK hN hP iw_X0_isBest_X1 rfl 7 1 (List.mem_of_getElem? (i := 13) rfl) (by decide) rfl rfl dX0_isBest_9 ?_
  refine lv_lmul hx hb dX0_isBest_12 ?_
  refine lv_aload_n hx hb dX0_isBest_13 rfl (lv_at hl 0 rfl) ?_
  refine lv_iload_n hx hb dX0_isBest_14 rfl (lv_at hl 1 rfl) ?_
  refine lv_aload_n hx hb dX0_isBest_15 rfl (lv_at hl 2 rfl) ?_
  refine lv_iload_n hx hb dX0_isBest_16 rfl (lv_at hl 3 rfl) ?_
  refine go_l (wc := [(h0, .inr (0, [.int (nI ki), .int (nI kt), .int (nI kf), .int (nI km), .int (fr), .ref (h5), .ref (h6), .ref (h7)])), (h5, aJ g 720 ray), (h6, aI g 144 tg), (h7, aJ g 144 sl), (r0, .inr (2, [.int (nI ri), .int (nI ro), .ref (rn), .ref (rp)])), (rn, aI g 48 nu), (rp, aZ g 12 pt)]) (wr := [(f0, .inr (1, [.long (x0), .long (x1)]))]) hP hD hS hA [0, 1, 2, 3, 4, 5, 6] [7] rfl rfl rfl rfl (by decide) (fun hPc hDc => rn_V (As := [.int (nI r), .ref (r0), .int (nI w)]) (rest := [.long ((outsW ray nu r w kt ki (kt - ki)) * x1)]) ⟨hx, hb, hml, hown, hts⟩ ((c_X0_insWeighed l g h0 h5 h6 h7 ki kt kf km fr ray tg sl r0 rn rp ri ro nu pt r w (by omega) (by omega) (by omega)) _) (cwV 3 hts gX0_isBest_X0_insWeighed rfl rfl rfl (by decide +kernel) ⟨Nat.le_of_ble_eq_true rfl, Nat.le_of_ble_eq_true rfl⟩) hK hN hPc hDc 0 rfl rfl rfl rfl hl.1 (Nat.le_of_ble_eq_true rfl) dX0_isBest_17 ⟨Nat.le_of_ble_eq_true rfl, Nat.le_of_ble_eq_true rfl⟩) ?_
  intro r_4 u_5 H locs h_6 hP hD hS
  have hP : va_P g.1 vwCl [(h0, .inr (0, [.int (nI ki), .int (nI kt), .int (nI kf), .int (nI km), .int (fr), .ref (h5), .ref (h6), .ref (h7)])), (h5, aJ g 720 ray), (h6, aI g 144 tg), (h7, aJ g 144 sl), (r0, .inr (2, [.int (nI ri), .int (nI ro), .ref (rn), .ref (rp)])), (rn, aI g 48 nu), (rp, aZ g 12 pt), (f0, .inr (1, [.long (x0), .long (x1)]))] H := hP.sub [1, 2, 3, 4, 5, 6, 7, 0] rfl
  have hD : va_D A [(h0, .inr (0, [.int (nI ki), .int (nI kt), .int (nI kf), .int (nI km), .int (fr), .ref (h5), .ref (h6), .ref (h7)])), (h5, aJ g 720 ray), (h6, aI g 144 tg), (h7, aJ g 144 sl), (r0, .inr (2, [.int (nI ri), .int (nI ro), .ref (rn), .ref (rp)])), (rn, aI g 48 nu), (rp, aZ g 12 pt), (f0, .inr (1, [.long (x0), .long (x1)]))] := hD.sub [1, 2, 3, 4, 5, 6, 7, 0] rfl rfl
  have h_6 : r_4 = insW ray nu r w ki := h_6
  subst h_6
  refine lv_aload hx hb dX0_isBest_20 (lv_at hl 4 rfl) ?_
  refine k_getN hx hb hts hown hK hN hP iw_X0_isBest_X1 rfl 7 0 (List.mem_of_getElem? (i := 11) rfl) (by decide) rfl rfl dX0_isBest_22 ?_
  refine lv_lmul hx hb dX0_isBest_25 ?_
  refine W.lcmp hx hb dX0_isBest_26 ?_
  refine lv_if_ne (tgt := 34) hx hb dX0_isBest_27 (by decide) (fun c_7 => ?_) (fun c_7 => ?_)
  · skip
    have c_7 := mt (lc_eq _ _).mpr c_7
    have hres : bstB ray nu w ki kt x0 x1 r = false := decide_eq_false c_7
    refine lv_iconst (v := nI 0) hx hb dX0_isBest_34 (by decide) ?_
    exact ret dX0_isBest_35 () (by rw [hres]; rfl) (by decide) hP hD hS
  · skip
    have c_7 := (lc_eq _ _).mp c_7
    have hres : bstB ray nu w ki kt x0 x1 r = true := decide_eq_true c_7
    refine lv_iconst (v := nI 1) hx hb dX0_isBest_30 (by decide) ?_
    refine lv_goto (tgt := 35) hx hb dX0_isBest_31 (by decide) ?_
    exact ret dX0_isBest_35 () (by rw [hres]; rfl) (by decide) hP hD hS
theorem iw_X0_weighsAllThings_X0 : ∀ w ∈ wsX00, w ∈ wsX0_weighsAllThings := by decide +kernel
theorem fm_X0_weighsAllThings_56 : Cond.fieldLink RX0 56 "EdgeBench$Cone" "many" "I" ∈ wsX0_weighsAllThings := by decide +kernel
theorem fm_X0_weighsAllThings_32 : Cond.fieldLink RX0 32 "EdgeBench$Cone" "things" "I" ∈ wsX0_weighsAllThings := by decide +kernel
theorem fm_X0_weighsAllThings_15 : Cond.fieldLink RX0 15 "EdgeBench$Cone" "tight" "[I" ∈ wsX0_weighsAllThings := by decide +kernel
set_option maxHeartbeats 4000000 in
set_option maxRecDepth 100000 in
theorem c_X0_weighsAllThings (l : Launch) (g : Gt) (h0 : Nat) (h5 : Nat) (h6 : Nat) (h7 : Nat) (ki : Nat) (kt : Nat) (kf : Nat) (km : Nat) (fr : Int32) (ray : Nat → Int64) (tg : Nat → Int32) (sl : Nat → Int64) (r0 : Nat) (rn : Nat) (rp : Nat) (ri : Nat) (ro : Nat) (nu : Nat → Int32) (pt : Nat → Int32) (f0 : Nat) (x0 : Int64) (x1 : Int64) (w : Nat) (hm : km ≤ 144) (hw : w < 12) (hi : ki ≤ 2) (hit : ki ≤ kt) (ht : kt ≤ 4) : CI l yX0_weighsAllThings wsX0_weighsAllThings { frames := 3, cells := 0, slots := 0, locals := 72 } g [.ref (h0), .ref (r0), .int (nI w), .ref (f0)] [(h0, .inr (0, [.int (nI ki), .int (nI kt), .int (nI kf), .int (nI km), .int (fr), .ref (h5), .ref (h6), .ref (h7)])), (h5, aJ g 720 ray), (h6, aI g 144 tg), (h7, aJ g 144 sl), (r0, .inr (2, [.int (nI ri), .int (nI ro), .ref (rn), .ref (rp)])), (rn, aI g 48 nu), (rp, aZ g 12 pt), (f0, .inr (1, [.long (x0), .long (x1)]))] (fun zr (zu : Unit) => zr = bI (decide (wtM ray tg nu w ki kt x0 x1 0 km 0 &&& axM kt = axM kt))) (fun (zu : Unit) => [(h0, .inr (0, [.int (nI ki), .int (nI kt), .int (nI kf), .int (nI km), .int (fr), .ref (h5), .ref (h6), .ref (h7)])), (h5, aJ g 720 ray), (h6, aI g 144 tg), (h7, aJ g 144 sl), (r0, .inr (2, [.int (nI ri), .int (nI ro), .ref (rn), .ref (rp)])), (rn, aI g 48 nu), (rp, aZ g 12 pt), (f0, .inr (1, [.long (x0), .long (x1)]))]) 0 0 := by
  refine ent_z (cc := cX0_weighsAllThings) (maxL := 6) (by decide) rfl (Nat.le_of_ble_eq_true rfl) ?_
  intro p e s m below meth c A args Q hE ret ls hl
  obtain ⟨hx, hb, hml, hown, hts, hnm, hA, hP, hD, hK, hN⟩ := hE
  have hS : va_S A s.heap s.heap [] := va_S.rf
  have hl : lv_has ls 6 [(0, .ref (h0)), (1, .ref (r0)), (2, .int (nI w)), (3, .ref (f0))] := hl
  have hP : va_P g.1 vwCl [(h0, .inr (0, [.int (nI ki), .int (nI kt), .int (nI kf), .int (nI km), .int (fr), .ref (h5), .ref (h6), .ref (h7)])), (h5, aJ g 720 ray), (h6, aI g 144 tg), (h7, aJ g 144 sl), (r0, .inr (2, [.int (nI ri), .int (nI ro), .ref (rn), .ref (rp)])), (rn, aI g 48 nu), (rp, aZ g 12 pt), (f0, .inr (1, [.long (x0), .long (x1)]))] s.heap := hP
  refine lv_iconst (v := nI 0) hx hb dX0_weighsAllThings_0 (by decide) ?_
  refine lv_istore (lv' := [(4, .int (nI 0)), (0, .ref (h0)), (1, .ref (r0)), (2, .int (nI w)), (3, .ref (f0))]) hx hb dX0_weighsAllThings_1 hl (by decide) rfl (fun ls hl => ?_)
  refine lv_iconst (v := nI 0) hx hb dX0_weighsAllThings_3 (by decide) ?_
  refine lv_istore (lv' := [(5, .int (nI 0)), (4, .int (nI 0)), (0, .ref (h0)), (1, .ref (r0)), (2, .int (nI w)), (3, .ref (f0))]) hx hb dX0_weighsAllThings_4 hl (by decide) rfl (fun ls hl => ?_)
  have lp_6 : ∀ (n : Nat) (k : Nat) (v : Int32), km - k < n → k ≤ km → wtM ray tg nu w ki kt x0 x1 0 km 0 = wtM ray tg nu w ki kt x0 x1 k (km - k) v → ∀ (H : Heap) (locs : List Loc), va_P g.1 vwCl [(h0, .inr (0, [.int (nI ki), .int (nI kt), .int (nI kf), .int (nI km), .int (fr), .ref (h5), .ref (h6), .ref (h7)])), (h5, aJ g 720 ray), (h6, aI g 144 tg), (h7, aJ g 144 sl), (r0, .inr (2, [.int (nI ri), .int (nI ro), .ref (rn), .ref (rp)])), (rn, aI g 48 nu), (rp, aZ g 12 pt), (f0, .inr (1, [.long (x0), .long (x1)]))] H → va_D A [(h0, .inr (0, [.int (nI ki), .int (nI kt), .int (nI kf), .int (nI km), .int (fr), .ref (h5), .ref (h6), .ref (h7)])), (h5, aJ g 720 ray), (h6, aI g 144 tg), (h7, aJ g 144 sl), (r0, .inr (2, [.int (nI ri), .int (nI ro), .ref (rn), .ref (rp)])), (rn, aI g 48 nu), (rp, aZ g 12 pt), (f0, .inr (1, [.long (x0), .long (x1)]))] → va_S A s.heap H locs → ∀ ls : Array Slot, lv_has ls 6 [(0, .ref (h0)), (1, .ref (r0)), (2, .int (nI w)), (3, .ref (f0)), (4, .int (v)), (5, .int (nI k))] → W p l e { frames := 3, cells := 0, slots := 0, locals := 72 } s m args below meth c H locs 0 0 Q (F0 m 6 ls []) := by
    intro n
    induction n with
    | zero =>
      intro k v hms
      omega
    | succ n ih_6 =>
      intro k v hms_6 hk hv H locs hP hD hS ls hl
      refine lv_iload hx hb dX0_weighsAllThings_6 (lv_at hl 5 rfl) ?_
      refine lv_aload_n hx hb dX0_weighsAllThings_8 rfl (lv_at hl 0 rfl) ?_
      refine k_get hx hb hts hown hK hP iw_X0_weighsAllThings_X0 rfl 0 3 fm_X0_weighsAllThings_56 (by decide) rfl rfl dX0_weighsAllThings_9 ?_
      refine lv_icmp_ge (tgt := 47) hx hb dX0_weighsAllThings_12 (by decide) (fun c_1 => ?_) (fun c_1 => ?_)
      · skip
        have c_1 := (nI_leI (by omega) (by omega)).mp c_1
        have hres : wtM ray tg nu w ki kt x0 x1 0 km 0 = v := by rw [hv, show km - k = 0 by omega]; rfl
        refine lv_iconst (v := nI 1) hx hb dX0_weighsAllThings_47 (by decide) ?_
        refine lv_aload_n hx hb dX0_weighsAllThings_48 rfl (lv_at hl 0 rfl) ?_
        refine k_get hx hb hts hown hK hP iw_X0_weighsAllThings_X0 rfl 0 1 fm_X0_weighsAllThings_32 (by decide) rfl rfl dX0_weighsAllThings_49 ?_
        refine lv_ishl hx hb dX0_weighsAllThings_52 ?_
        refine lv_iconst (v := nI 1) hx hb dX0_weighsAllThings_53 (by decide) ?_
        refine lv_isub hx hb dX0_weighsAllThings_54 ?_
        refine k_ei (y := axM kt) (rfl) ?_
        refine lv_istore (lv' := [(5, .int (axM kt)), (0, .ref (h0)), (1, .ref (r0)), (2, .int (nI w)), (3, .ref (f0)), (4, .int (v))]) hx hb dX0_weighsAllThings_55 hl (by decide) rfl (fun ls hl => ?_)
        refine lv_iload hx hb dX0_weighsAllThings_57 (lv_at hl 5 rfl) ?_
        refine lv_iload hx hb dX0_weighsAllThings_59 (lv_at hl 0 rfl) ?_
        refine lv_iand hx hb dX0_weighsAllThings_61 ?_
        refine lv_iload hx hb dX0_weighsAllThings_62 (lv_at hl 0 rfl) ?_
        refine lv_icmp_ne (tgt := 71) hx hb dX0_weighsAllThings_64 (by decide) (fun c_2 => ?_) (fun c_2 => ?_)
        · skip
          have hr2 : decide (wtM ray tg nu w ki kt x0 x1 0 km 0 &&& axM kt = axM kt) = false := decide_eq_false (by rw [hres]; exact c_2)
          refine lv_iconst (v := nI 0) hx hb dX0_weighsAllThings_71 (by decide) ?_
          exact ret dX0_weighsAllThings_72 () (by rw [hr2]; rfl) (by decide) hP hD hS
        · skip
          have hr2 : decide (wtM ray tg nu w ki kt x0 x1 0 km 0 &&& axM kt = axM kt) = true := decide_eq_true (by rw [hres]; exact c_2)
          refine lv_iconst (v := nI 1) hx hb dX0_weighsAllThings_67 (by decide) ?_
          refine lv_goto (tgt := 72) hx hb dX0_weighsAllThings_68 (by decide) ?_
          exact ret dX0_weighsAllThings_72 () (by rw [hr2]; rfl) (by decide) hP hD hS
      · skip
        have c_1 := mt (nI_leI (by omega) (by omega)).mpr c_1
        refine lv_aload_n hx hb dX0_weighsAllThings_15 rfl (lv_at hl 0 rfl) ?_
        refine lv_iload hx hb dX0_weighsAllThings_16 (lv_at hl 5 rfl) ?_
        refine lv_aload_n hx hb dX0_weighsAllThings_18 rfl (lv_at hl 1 rfl) ?_
        refine lv_iload_n hx hb dX0_weighsAllThings_19 rfl (lv_at hl 2 rfl) ?_
        refine lv_aload_n hx hb dX0_weighsAllThings_20 rfl (lv_at hl 3 rfl) ?_
        refine go_i (wc := [(h0, .inr (0, [.int (nI ki), .int (nI kt), .int (nI kf), .int (nI km), .int (fr), .ref (h5), .ref (h6), .ref (h7)])), (h5, aJ g 720 ray), (h6, aI g 144 tg), (h7, aJ g 144 sl), (r0, .inr (2, [.int (nI ri), .int (nI ro), .ref (rn), .ref (rp)])), (rn, aI g 48 nu), (rp, aZ g 12 pt), (f0, .inr (1, [.long (x0), .long (x1)]))]) (wr := []) hP hD hS hA [0, 1, 2, 3, 4, 5, 6, 7] [] rfl rfl rfl rfl (by decide) (fun hPc hDc => rn_V (As := [.int (nI k), .ref (r0), .int (nI w), .ref (f0)]) (rest := []) ⟨hx, hb, hml, hown, hts⟩ ((c_X0_isBest l g h0 h5 h6 h7 ki kt kf km fr ray tg sl r0 rn rp ri ro nu pt f0 x0 x1 k w (by omega) (by omega) (by omega) (by omega) (by omega)) _) (cwV 4 hts gX0_weighsAllThings_X0_isBest rfl rfl rfl (by decide +kernel) ⟨Nat.le_of_ble_eq_true rfl, Nat.le_of_ble_eq_true rfl⟩) hK hN hPc hDc 0 rfl rfl rfl rfl hl.1 (Nat.le_of_ble_eq_true rfl) dX0_weighsAllThings_21 ⟨Nat.le_of_ble_eq_true rfl, Nat.le_of_ble_eq_true rfl⟩) ?_
        intro r_3 u_4 H locs h_5 hP hD hS
        have hP : va_P g.1 vwCl [(h0, .inr (0, [.int (nI ki), .int (nI kt), .int (nI kf), .int (nI km), .int (fr), .ref (h5), .ref (h6), .ref (h7)])), (h5, aJ g 720 ray), (h6, aI g 144 tg), (h7, aJ g 144 sl), (r0, .inr (2, [.int (nI ri), .int (nI ro), .ref (rn), .ref (rp)])), (rn, aI g 48 nu), (rp, aZ g 12 pt), (f0, .inr (1, [.long (x0), .long (x1)]))] H := hP.sub [0, 1, 2, 3, 4, 5, 6, 7] rfl
        have hD : va_D A [(h0, .inr (0, [.int (nI ki), .int (nI kt), .int (nI kf), .int (nI km), .int (fr), .ref (h5), .ref (h6), .ref (h7)])), (h5, aJ g 720 ray), (h6, aI g 144 tg), (h7, aJ g 144 sl), (r0, .inr (2, [.int (nI ri), .int (nI ro), .ref (rn), .ref (rp)])), (rn, aI g 48 nu), (rp, aZ g 12 pt), (f0, .inr (1, [.long (x0), .long (x1)]))] := hD.sub [0, 1, 2, 3, 4, 5, 6, 7] rfl rfl
        have h_5 : r_3 = bI (bstB ray nu w ki kt x0 x1 k) := h_5
        subst h_5
        refine lv_if_eq (tgt := 41) hx hb dX0_weighsAllThings_24 (by decide) (fun c_6 => ?_) (fun c_6 => ?_)
        · skip
          have hv2 : wtM ray tg nu w ki kt x0 x1 0 km 0 = wtM ray tg nu w ki kt x0 x1 (k + 1) (km - (k + 1)) v := by rw [hv, show km - k = (km - (k + 1)) + 1 by omega, wtM, if_neg (by rw [bI_eq0.mp c_6]; decide)]
          refine lv_iinc (v := nI (k + 1)) (lv' := [(5, .int (nI (k + 1))), (0, .ref (h0)), (1, .ref (r0)), (2, .int (nI w)), (3, .ref (f0)), (4, .int (v))]) hx hb dX0_weighsAllThings_41 hl (k := 5) rfl (nI_inc1 k) (by decide) rfl (fun ls hl => ?_)
          refine lv_goto (tgt := 6) hx hb dX0_weighsAllThings_44 (by decide) ?_
          exact ih_6 (k + 1) v (by omega) (by omega) hv2 _ _ hP hD hS ls (lv_sub hl [1, 2, 3, 4, 5, 0] rfl)
        · skip
          have hv2 : wtM ray tg nu w ki kt x0 x1 0 km 0 = wtM ray tg nu w ki kt x0 x1 (k + 1) (km - (k + 1)) (v ||| (tg k ^^^ -1)) := by rw [hv, show km - k = (km - (k + 1)) + 1 by omega, wtM, if_pos (bI_ne0.mp c_6)]
          refine lv_iload hx hb dX0_weighsAllThings_27 (lv_at hl 4 rfl) ?_
          refine lv_aload_n hx hb dX0_weighsAllThings_29 rfl (lv_at hl 0 rfl) ?_
          refine k_get hx hb hts hown hK hP iw_X0_weighsAllThings_X0 rfl 0 6 fm_X0_weighsAllThings_15 (by decide) rfl rfl dX0_weighsAllThings_30 ?_
          refine lv_iload hx hb dX0_weighsAllThings_33 (lv_at hl 5 rfl) ?_
          refine k_iald hx hb hK hP 2 rfl (by omega) (by omega) dX0_weighsAllThings_35 ?_
          refine lv_iconst (v := -1) hx hb dX0_weighsAllThings_36 (by decide) ?_
          refine lv_ixor hx hb dX0_weighsAllThings_37 ?_
          refine lv_ior hx hb dX0_weighsAllThings_38 ?_
          refine lv_istore (lv' := [(4, .int (v ||| ((tg k) ^^^ (-1)))), (0, .ref (h0)), (1, .ref (r0)), (2, .int (nI w)), (3, .ref (f0)), (5, .int (nI k))]) hx hb dX0_weighsAllThings_39 hl (by decide) rfl (fun ls hl => ?_)
          refine lv_iinc (v := nI (k + 1)) (lv' := [(5, .int (nI (k + 1))), (4, .int (v ||| ((tg k) ^^^ (-1)))), (0, .ref (h0)), (1, .ref (r0)), (2, .int (nI w)), (3, .ref (f0))]) hx hb dX0_weighsAllThings_41 hl (k := 5) rfl (nI_inc1 k) (by decide) rfl (fun ls hl => ?_)
          refine lv_goto (tgt := 6) hx hb dX0_weighsAllThings_44 (by decide) ?_
          exact ih_6 (k + 1) (v ||| ((tg k) ^^^ (-1))) (by omega) (by omega) hv2 _ _ hP hD hS ls (lv_sub hl [2, 3, 4, 5, 1, 0] rfl)
  exact lp_6 (km - 0 + 1) 0 0 (by omega) (by omega) rfl _ _ hP hD hS ls (lv_sub hl [2, 3, 4, 5, 1, 0] rfl)
theorem iw_X0_isTightWhereBest_X0 : ∀ w ∈ wsX00, w ∈ wsX0_isTightWhereBest := by decide +kernel
theorem fm_X0_isTightWhereBest_56 : Cond.fieldLink RX0 56 "EdgeBench$Cone" "many" "I" ∈ wsX0_isTightWhereBest := by decide +kernel
theorem fm_X0_isTightWhereBest_15 : Cond.fieldLink RX0 15 "EdgeBench$Cone" "tight" "[I" ∈ wsX0_isTightWhereBest := by decide +kernel
set_option maxHeartbeats 4000000 in
set_option maxRecDepth 100000 in
theorem c_X0_isTightWhereBest (l : Launch) (g : Gt) (h0 : Nat) (h5 : Nat) (h6 : Nat) (h7 : Nat) (ki : Nat) (kt : Nat) (kf : Nat) (km : Nat) (fr : Int32) (ray : Nat → Int64) (tg : Nat → Int32) (sl : Nat → Int64) (r0 : Nat) (rn : Nat) (rp : Nat) (ri : Nat) (ro : Nat) (nu : Nat → Int32) (pt : Nat → Int32) (f0 : Nat) (x0 : Int64) (x1 : Int64) (w : Nat) (o : Nat) (hm : km ≤ 144) (hw : w < 12) (hi : ki ≤ 2) (hit : ki ≤ kt) (ht : kt ≤ 4) (ho : o < 12) : CI l yX0_isTightWhereBest wsX0_isTightWhereBest { frames := 3, cells := 0, slots := 0, locals := 72 } g [.ref (h0), .ref (r0), .int (nI w), .ref (f0), .int (nI o)] [(h0, .inr (0, [.int (nI ki), .int (nI kt), .int (nI kf), .int (nI km), .int (fr), .ref (h5), .ref (h6), .ref (h7)])), (h5, aJ g 720 ray), (h6, aI g 144 tg), (h7, aJ g 144 sl), (r0, .inr (2, [.int (nI ri), .int (nI ro), .ref (rn), .ref (rp)])), (rn, aI g 48 nu), (rp, aZ g 12 pt), (f0, .inr (1, [.long (x0), .long (x1)]))] (fun zr (zu : Unit) => zr = bI (twB ray tg nu w ki kt x0 x1 (bdW o) 0 km)) (fun (zu : Unit) => [(h0, .inr (0, [.int (nI ki), .int (nI kt), .int (nI kf), .int (nI km), .int (fr), .ref (h5), .ref (h6), .ref (h7)])), (h5, aJ g 720 ray), (h6, aI g 144 tg), (h7, aJ g 144 sl), (r0, .inr (2, [.int (nI ri), .int (nI ro), .ref (rn), .ref (rp)])), (rn, aI g 48 nu), (rp, aZ g 12 pt), (f0, .inr (1, [.long (x0), .long (x1)]))]) 0 0 := by
  refine ent_z (cc := cX0_isTightWhereBest) (maxL := 7) (by decide) rfl (Nat.le_of_ble_eq_true rfl) ?_
  intro p e s m below meth c A args Q hE ret ls hl
  obtain ⟨hx, hb, hml, hown, hts, hnm, hA, hP, hD, hK, hN⟩ := hE
  have hS : va_S A s.heap s.heap [] := va_S.rf
  have hl : lv_has ls 7 [(0, .ref (h0)), (1, .ref (r0)), (2, .int (nI w)), (3, .ref (f0)), (4, .int (nI o))] := hl
  have hP : va_P g.1 vwCl [(h0, .inr (0, [.int (nI ki), .int (nI kt), .int (nI kf), .int (nI km), .int (fr), .ref (h5), .ref (h6), .ref (h7)])), (h5, aJ g 720 ray), (h6, aI g 144 tg), (h7, aJ g 144 sl), (r0, .inr (2, [.int (nI ri), .int (nI ro), .ref (rn), .ref (rp)])), (rn, aI g 48 nu), (rp, aZ g 12 pt), (f0, .inr (1, [.long (x0), .long (x1)]))] s.heap := hP
  refine lv_iconst (v := nI 1) hx hb dX0_isTightWhereBest_0 (by decide) ?_
  refine lv_iconst (v := nI 5) hx hb dX0_isTightWhereBest_1 (by decide) ?_
  refine lv_iload hx hb dX0_isTightWhereBest_2 (lv_at hl 4 rfl) ?_
  refine lv_iadd hx hb dX0_isTightWhereBest_4 ?_
  refine k_ei (y := nI (5 + o)) (nI_add _ _) ?_
  refine lv_ishl hx hb dX0_isTightWhereBest_5 ?_
  refine k_ei (y := bdW o) (rfl) ?_
  refine lv_istore (lv' := [(5, .int (bdW o)), (0, .ref (h0)), (1, .ref (r0)), (2, .int (nI w)), (3, .ref (f0)), (4, .int (nI o))]) hx hb dX0_isTightWhereBest_6 hl (by decide) rfl (fun ls hl => ?_)
  refine lv_iconst (v := nI 0) hx hb dX0_isTightWhereBest_8 (by decide) ?_
  refine lv_istore (lv' := [(6, .int (nI 0)), (5, .int (bdW o)), (0, .ref (h0)), (1, .ref (r0)), (2, .int (nI w)), (3, .ref (f0)), (4, .int (nI o))]) hx hb dX0_isTightWhereBest_9 hl (by decide) rfl (fun ls hl => ?_)
  have lp_11 : ∀ (n : Nat) (k : Nat), km - k < n → k ≤ km → twB ray tg nu w ki kt x0 x1 (bdW o) 0 km = twB ray tg nu w ki kt x0 x1 (bdW o) k (km - k) → ∀ (H : Heap) (locs : List Loc), va_P g.1 vwCl [(h0, .inr (0, [.int (nI ki), .int (nI kt), .int (nI kf), .int (nI km), .int (fr), .ref (h5), .ref (h6), .ref (h7)])), (h5, aJ g 720 ray), (h6, aI g 144 tg), (h7, aJ g 144 sl), (r0, .inr (2, [.int (nI ri), .int (nI ro), .ref (rn), .ref (rp)])), (rn, aI g 48 nu), (rp, aZ g 12 pt), (f0, .inr (1, [.long (x0), .long (x1)]))] H → va_D A [(h0, .inr (0, [.int (nI ki), .int (nI kt), .int (nI kf), .int (nI km), .int (fr), .ref (h5), .ref (h6), .ref (h7)])), (h5, aJ g 720 ray), (h6, aI g 144 tg), (h7, aJ g 144 sl), (r0, .inr (2, [.int (nI ri), .int (nI ro), .ref (rn), .ref (rp)])), (rn, aI g 48 nu), (rp, aZ g 12 pt), (f0, .inr (1, [.long (x0), .long (x1)]))] → va_S A s.heap H locs → ∀ ls : Array Slot, lv_has ls 7 [(0, .ref (h0)), (1, .ref (r0)), (2, .int (nI w)), (3, .ref (f0)), (4, .int (nI o)), (5, .int (bdW o)), (6, .int (nI k))] → W p l e { frames := 3, cells := 0, slots := 0, locals := 72 } s m args below meth c H locs 0 0 Q (F0 m 11 ls []) := by
    intro n
    induction n with
    | zero =>
      intro k hms
      omega
    | succ n ih_11 =>
      intro k hms_11 hk hv H locs hP hD hS ls hl
      refine lv_iload hx hb dX0_isTightWhereBest_11 (lv_at hl 6 rfl) ?_
      refine lv_aload_n hx hb dX0_isTightWhereBest_13 rfl (lv_at hl 0 rfl) ?_
      refine k_get hx hb hts hown hK hP iw_X0_isTightWhereBest_X0 rfl 0 3 fm_X0_isTightWhereBest_56 (by decide) rfl rfl dX0_isTightWhereBest_14 ?_
      refine lv_icmp_ge (tgt := 53) hx hb dX0_isTightWhereBest_17 (by decide) (fun c_1 => ?_) (fun c_1 => ?_)
      · skip
        have c_1 := (nI_leI (by omega) (by omega)).mp c_1
        refine lv_iconst (v := nI 1) hx hb dX0_isTightWhereBest_53 (by decide) ?_
        exact ret dX0_isTightWhereBest_54 () (by rw [hv, show km - k = 0 by omega]; rfl) (by decide) hP hD hS
      · skip
        have c_1 := mt (nI_leI (by omega) (by omega)).mpr c_1
        refine lv_aload_n hx hb dX0_isTightWhereBest_20 rfl (lv_at hl 0 rfl) ?_
        refine k_get hx hb hts hown hK hP iw_X0_isTightWhereBest_X0 rfl 0 6 fm_X0_isTightWhereBest_15 (by decide) rfl rfl dX0_isTightWhereBest_21 ?_
        refine lv_iload hx hb dX0_isTightWhereBest_24 (lv_at hl 6 rfl) ?_
        refine k_iald hx hb hK hP 2 rfl (by omega) (by omega) dX0_isTightWhereBest_26 ?_
        refine lv_iload hx hb dX0_isTightWhereBest_27 (lv_at hl 5 rfl) ?_
        refine lv_iand hx hb dX0_isTightWhereBest_29 ?_
        refine lv_if_ne (tgt := 47) hx hb dX0_isTightWhereBest_30 (by decide) (fun c_2 => ?_) (fun c_2 => ?_)
        · skip
          have hv2 : twB ray tg nu w ki kt x0 x1 (bdW o) 0 km = twB ray tg nu w ki kt x0 x1 (bdW o) (k + 1) (km - (k + 1)) := by rw [hv, show km - k = (km - (k + 1)) + 1 by omega, twB, if_neg (fun q => c_2 q.1)]
          refine lv_iinc (v := nI (k + 1)) (lv' := [(6, .int (nI (k + 1))), (0, .ref (h0)), (1, .ref (r0)), (2, .int (nI w)), (3, .ref (f0)), (4, .int (nI o)), (5, .int (bdW o))]) hx hb dX0_isTightWhereBest_47 hl (k := 6) rfl (nI_inc1 k) (by decide) rfl (fun ls hl => ?_)
          refine lv_goto (tgt := 11) hx hb dX0_isTightWhereBest_50 (by decide) ?_
          exact ih_11 (k + 1) (by omega) (by omega) hv2 _ _ hP hD hS ls (lv_sub hl [1, 2, 3, 4, 5, 6, 0] rfl)
        · skip
          have h1 := c_2
          refine lv_aload_n hx hb dX0_isTightWhereBest_33 rfl (lv_at hl 0 rfl) ?_
          refine lv_iload hx hb dX0_isTightWhereBest_34 (lv_at hl 6 rfl) ?_
          refine lv_aload_n hx hb dX0_isTightWhereBest_36 rfl (lv_at hl 1 rfl) ?_
          refine lv_iload_n hx hb dX0_isTightWhereBest_37 rfl (lv_at hl 2 rfl) ?_
          refine lv_aload_n hx hb dX0_isTightWhereBest_38 rfl (lv_at hl 3 rfl) ?_
          refine go_i (wc := [(h0, .inr (0, [.int (nI ki), .int (nI kt), .int (nI kf), .int (nI km), .int (fr), .ref (h5), .ref (h6), .ref (h7)])), (h5, aJ g 720 ray), (h6, aI g 144 tg), (h7, aJ g 144 sl), (r0, .inr (2, [.int (nI ri), .int (nI ro), .ref (rn), .ref (rp)])), (rn, aI g 48 nu), (rp, aZ g 12 pt), (f0, .inr (1, [.long (x0), .long (x1)]))]) (wr := []) hP hD hS hA [0, 1, 2, 3, 4, 5, 6, 7] [] rfl rfl rfl rfl (by decide) (fun hPc hDc => rn_V (As := [.int (nI k), .ref (r0), .int (nI w), .ref (f0)]) (rest := []) ⟨hx, hb, hml, hown, hts⟩ ((c_X0_isBest l g h0 h5 h6 h7 ki kt kf km fr ray tg sl r0 rn rp ri ro nu pt f0 x0 x1 k w (by omega) (by omega) (by omega) (by omega) (by omega)) _) (cwV 4 hts gX0_isTightWhereBest_X0_isBest rfl rfl rfl (by decide +kernel) ⟨Nat.le_of_ble_eq_true rfl, Nat.le_of_ble_eq_true rfl⟩) hK hN hPc hDc 0 rfl rfl rfl rfl hl.1 (Nat.le_of_ble_eq_true rfl) dX0_isTightWhereBest_39 ⟨Nat.le_of_ble_eq_true rfl, Nat.le_of_ble_eq_true rfl⟩) ?_
          intro r_3 u_4 H locs h_5 hP hD hS
          have hP : va_P g.1 vwCl [(h0, .inr (0, [.int (nI ki), .int (nI kt), .int (nI kf), .int (nI km), .int (fr), .ref (h5), .ref (h6), .ref (h7)])), (h5, aJ g 720 ray), (h6, aI g 144 tg), (h7, aJ g 144 sl), (r0, .inr (2, [.int (nI ri), .int (nI ro), .ref (rn), .ref (rp)])), (rn, aI g 48 nu), (rp, aZ g 12 pt), (f0, .inr (1, [.long (x0), .long (x1)]))] H := hP.sub [0, 1, 2, 3, 4, 5, 6, 7] rfl
          have hD : va_D A [(h0, .inr (0, [.int (nI ki), .int (nI kt), .int (nI kf), .int (nI km), .int (fr), .ref (h5), .ref (h6), .ref (h7)])), (h5, aJ g 720 ray), (h6, aI g 144 tg), (h7, aJ g 144 sl), (r0, .inr (2, [.int (nI ri), .int (nI ro), .ref (rn), .ref (rp)])), (rn, aI g 48 nu), (rp, aZ g 12 pt), (f0, .inr (1, [.long (x0), .long (x1)]))] := hD.sub [0, 1, 2, 3, 4, 5, 6, 7] rfl rfl
          have h_5 : r_3 = bI (bstB ray nu w ki kt x0 x1 k) := h_5
          subst h_5
          refine lv_if_eq (tgt := 47) hx hb dX0_isTightWhereBest_42 (by decide) (fun c_6 => ?_) (fun c_6 => ?_)
          · skip
            have hv2 : twB ray tg nu w ki kt x0 x1 (bdW o) 0 km = twB ray tg nu w ki kt x0 x1 (bdW o) (k + 1) (km - (k + 1)) := by rw [hv, show km - k = (km - (k + 1)) + 1 by omega, twB, if_neg (fun q => absurd (bI_eq0.mp c_6) (by rw [q.2]; decide))]
            refine lv_iinc (v := nI (k + 1)) (lv' := [(6, .int (nI (k + 1))), (0, .ref (h0)), (1, .ref (r0)), (2, .int (nI w)), (3, .ref (f0)), (4, .int (nI o)), (5, .int (bdW o))]) hx hb dX0_isTightWhereBest_47 hl (k := 6) rfl (nI_inc1 k) (by decide) rfl (fun ls hl => ?_)
            refine lv_goto (tgt := 11) hx hb dX0_isTightWhereBest_50 (by decide) ?_
            exact ih_11 (k + 1) (by omega) (by omega) hv2 _ _ hP hD hS ls (lv_sub hl [1, 2, 3, 4, 5, 6, 0] rfl)
          · skip
            have h2 := bI_ne0.mp c_6
            refine lv_iconst (v := nI 0) hx hb dX0_isTightWhereBest_45 (by decide) ?_
            exact ret dX0_isTightWhereBest_46 () (by rw [hv, show km - k = (km - (k + 1)) + 1 by omega, twB, if_pos ⟨h1, h2⟩]; rfl) (by decide) hP hD hS
  exact lp_11 (km - 0 + 1) 0 (by omega) (by omega) rfl _ _ hP hD hS ls (lv_sub hl [2, 3, 4, 5, 6, 1, 0] rfl)
theorem iw_X0_shareOf_X0 : ∀ w ∈ wsX00, w ∈ wsX0_shareOf := by decide +kernel
theorem fm_X0_shareOf_56 : Cond.fieldLink RX0 56 "EdgeBench$Cone" "many" "I" ∈ wsX0_shareOf := by decide +kernel
theorem iw_X0_shareOf_X1 : ∀ w ∈ wsX10, w ∈ wsX0_shareOf := by decide +kernel
set_option maxHeartbeats 4000000 in
set_option maxRecDepth 100000 in
theorem c_X0_shareOf (l : Launch) (g : Gt) (h0 : Nat) (h5 : Nat) (h6 : Nat) (h7 : Nat) (ki : Nat) (kt : Nat) (kf : Nat) (km : Nat) (fr : Int32) (ray : Nat → Int64) (tg : Nat → Int32) (sl : Nat → Int64) (r0 : Nat) (rn : Nat) (rp : Nat) (ri : Nat) (ro : Nat) (nu : Nat → Int32) (pt : Nat → Int32) (w : Nat) (hm : km ≤ 144) (hw : w < 12) (hi : ki ≤ 2) (hit : ki ≤ kt) (ht : kt ≤ 4) : CR l yX0_shareOf wsX0_shareOf { frames := 2, cells := 1, slots := 2, locals := 56 } g [.ref (h0), .ref (r0), .int (nI w)] [(h0, .inr (0, [.int (nI ki), .int (nI kt), .int (nI kf), .int (nI km), .int (fr), .ref (h5), .ref (h6), .ref (h7)])), (h5, aJ g 720 ray), (h6, aI g 144 tg), (h7, aJ g 144 sl), (r0, .inr (2, [.int (nI ri), .int (nI ro), .ref (rn), .ref (rp)])), (rn, aI g 48 nu), (rp, aZ g 12 pt)] (fun (zu : Unit) => True) (fun (zu : Unit) za => [(h0, .inr (0, [.int (nI ki), .int (nI kt), .int (nI kf), .int (nI km), .int (fr), .ref (h5), .ref (h6), .ref (h7)])), (h5, aJ g 720 ray), (h6, aI g 144 tg), (h7, aJ g 144 sl), (r0, .inr (2, [.int (nI ri), .int (nI ro), .ref (rn), .ref (rp)])), (rn, aI g 48 nu), (rp, aZ g 12 pt), (za, .inr (1, [.long (frT (shF ray nu w ki kt 0 km (0, 0)).1 (shF ray nu w ki kt 0 km (0, 0)).2), .long (frB (shF ray nu w ki kt 0 km (0, 0)).1 (shF ray nu w ki kt 0 km (0, 0)).2)]))]) 1 2 := by
  refine ent_r (cc := cX0_shareOf) (maxL := 12) (by decide) rfl (Nat.le_of_ble_eq_true rfl) ?_
  intro p e s m below meth c A args Q hE ret ls hl
  obtain ⟨hx, hb, hml, hown, hts, hnm, hA, hP, hD, hK, hN⟩ := hE
  have hS : va_S A s.heap s.heap [] := va_S.rf
  have hl : lv_has ls 12 [(0, .ref (h0)), (1, .ref (r0)), (2, .int (nI w))] := hl
  have hP : va_P g.1 vwCl [(h0, .inr (0, [.int (nI ki), .int (nI kt), .int (nI kf), .int (nI km), .int (fr), .ref (h5), .ref (h6), .ref (h7)])), (h5, aJ g 720 ray), (h6, aI g 144 tg), (h7, aJ g 144 sl), (r0, .inr (2, [.int (nI ri), .int (nI ro), .ref (rn), .ref (rp)])), (rn, aI g 48 nu), (rp, aZ g 12 pt)] s.heap := hP
  refine lv_lconst (v := 0) hx hb dX0_shareOf_0 (by decide) ?_
  refine lv_lstore_n (lv' := [(3, .long (0)), (0, .ref (h0)), (1, .ref (r0)), (2, .int (nI w))]) hx hb dX0_shareOf_1 rfl hl (by decide) rfl (fun ls hl => ?_)
  refine lv_lconst (v := 0) hx hb dX0_shareOf_2 (by decide) ?_
  refine lv_lstore (lv' := [(5, .long (0)), (3, .long (0)), (0, .ref (h0)), (1, .ref (r0)), (2, .int (nI w))]) hx hb dX0_shareOf_3 hl (by decide) rfl (fun ls hl => ?_)
  refine lv_iconst (v := nI 0) hx hb dX0_shareOf_5 (by decide) ?_
  refine lv_istore (lv' := [(7, .int (nI 0)), (5, .long (0)), (3, .long (0)), (0, .ref (h0)), (1, .ref (r0)), (2, .int (nI w))]) hx hb dX0_shareOf_6 hl (by decide) rfl (fun ls hl => ?_)
  have lp_8 : ∀ (n : Nat) (k : Nat) (tp : Int64) (bt : Int64), km - k < n → k ≤ km → shF ray nu w ki kt 0 km (0, 0) = shF ray nu w ki kt k (km - k) (tp, bt) → ∀ (H : Heap) (locs : List Loc), va_P g.1 vwCl [(h0, .inr (0, [.int (nI ki), .int (nI kt), .int (nI kf), .int (nI km), .int (fr), .ref (h5), .ref (h6), .ref (h7)])), (h5, aJ g 720 ray), (h6, aI g 144 tg), (h7, aJ g 144 sl), (r0, .inr (2, [.int (nI ri), .int (nI ro), .ref (rn), .ref (rp)])), (rn, aI g 48 nu), (rp, aZ g 12 pt)] H → va_D A [(h0, .inr (0, [.int (nI ki), .int (nI kt), .int (nI kf), .int (nI km), .int (fr), .ref (h5), .ref (h6), .ref (h7)])), (h5, aJ g 720 ray), (h6, aI g 144 tg), (h7, aJ g 144 sl), (r0, .inr (2, [.int (nI ri), .int (nI ro), .ref (rn), .ref (rp)])), (rn, aI g 48 nu), (rp, aZ g 12 pt)] → va_S A s.heap H locs → ∀ ls : Array Slot, lv_has ls 12 [(0, .ref (h0)), (1, .ref (r0)), (2, .int (nI w)), (3, .long (tp)), (5, .long (bt)), (7, .int (nI k))] → W p l e { frames := 2, cells := 1, slots := 2, locals := 56 } s m args below meth c H locs 0 0 Q (F0 m 8 ls []) := by
    intro n
    induction n with
    | zero =>
      intro k tp bt hms
      omega
    | succ n ih_8 =>
      intro k tp bt hms_8 hk hv H locs hP hD hS ls hl
      refine lv_iload hx hb dX0_shareOf_8 (lv_at hl 5 rfl) ?_
      refine lv_aload_n hx hb dX0_shareOf_10 rfl (lv_at hl 0 rfl) ?_
      refine k_get hx hb hts hown hK hP iw_X0_shareOf_X0 rfl 0 3 fm_X0_shareOf_56 (by decide) rfl rfl dX0_shareOf_11 ?_
      refine lv_icmp_ge (tgt := 101) hx hb dX0_shareOf_14 (by decide) (fun c_1 => ?_) (fun c_1 => ?_)
      · skip
        have c_1 := (nI_leI (by omega) (by omega)).mp c_1
        have hfin : shF ray nu w ki kt 0 km (0, 0) = (tp, bt) := by rw [hv, show km - k = 0 by omega]; rfl
        have e1 : tp = (shF ray nu w ki kt 0 km (0, 0)).1 := (congrArg Prod.fst hfin).symm
        have e2 : bt = (shF ray nu w ki kt 0 km (0, 0)).2 := (congrArg Prod.snd hfin).symm
        clear hfin hv
        subst e1
        subst e2
        refine va_new (ci := 1) (fs := [.long (0), .long (0)]) (C := RX1) (T := TX1) (N := 2) hx hb hts iw_X0_shareOf_X1 tyX1 tyX1_ok hown (hts (.classLink RX0 102 RX1) (by decide +kernel)) (hts (.instantiable RX1 2) (by decide +kernel)) (hts (.initialized RX1) (by decide +kernel)) hK hP hD hS hA rfl (by decide) (Nat.le_of_ble_eq_true rfl) (Nat.le_of_ble_eq_true rfl) dX0_shareOf_101 (fun q_2 H hP hD hS => ?_)
        have hP : va_P g.1 vwCl [(h0, .inr (0, [.int (nI ki), .int (nI kt), .int (nI kf), .int (nI km), .int (fr), .ref (h5), .ref (h6), .ref (h7)])), (h5, aJ g 720 ray), (h6, aI g 144 tg), (h7, aJ g 144 sl), (r0, .inr (2, [.int (nI ri), .int (nI ro), .ref (rn), .ref (rp)])), (rn, aI g 48 nu), (rp, aZ g 12 pt), (q_2, .inr (1, [.long (0), .long (0)]))] H := hP
        have hD : va_D A [(h0, .inr (0, [.int (nI ki), .int (nI kt), .int (nI kf), .int (nI km), .int (fr), .ref (h5), .ref (h6), .ref (h7)])), (h5, aJ g 720 ray), (h6, aI g 144 tg), (h7, aJ g 144 sl), (r0, .inr (2, [.int (nI ri), .int (nI ro), .ref (rn), .ref (rp)])), (rn, aI g 48 nu), (rp, aZ g 12 pt), (q_2, .inr (1, [.long (0), .long (0)]))] := hD
        refine lv_dup hx hb dX0_shareOf_104 rfl ?_
        refine lv_lload_n hx hb dX0_shareOf_105 rfl (lv_at hl 3 rfl) ?_
        refine lv_lload hx hb dX0_shareOf_106 (lv_at hl 4 rfl) ?_
        refine go_v (wc := [(q_2, .inr (1, [.long (0), .long (0)]))]) (wr := [(h0, .inr (0, [.int (nI ki), .int (nI kt), .int (nI kf), .int (nI km), .int (fr), .ref (h5), .ref (h6), .ref (h7)])), (h5, aJ g 720 ray), (h6, aI g 144 tg), (h7, aJ g 144 sl), (r0, .inr (2, [.int (nI ri), .int (nI ro), .ref (rn), .ref (rp)])), (rn, aI g 48 nu), (rp, aZ g 12 pt)]) hP hD hS hA [7] [0, 1, 2, 3, 4, 5, 6] rfl rfl rfl rfl (by decide) (fun hPc hDc => rn_IN (As := [.long (((shF ray nu w ki kt 0 km (0, 0)).1)), .long (((shF ray nu w ki kt 0 km (0, 0)).2))]) (rest := [.ref (q_2)]) ⟨hx, hb, hml, hown, hts⟩ ((c_X1_init l g q_2 0 0 (((shF ray nu w ki kt 0 km (0, 0)).1)) (((shF ray nu w ki kt 0 km (0, 0)).2)) ) _) (⟨va_cnB 2 hts gX0_shareOf_X1_init_n104 rfl rfl rfl (hN.2 _ (List.mem_of_getElem? (i := 13) rfl)) (hts _ (by decide +kernel)) (by decide +kernel) ⟨Nat.le_of_ble_eq_true rfl, Nat.le_of_ble_eq_true rfl⟩, rfl, hts _ (by decide +kernel)⟩) hK hN hPc hDc rfl rfl hl.1 (Nat.le_of_ble_eq_true rfl) dX0_shareOf_108 ⟨Nat.le_of_ble_eq_true rfl, Nat.le_of_ble_eq_true rfl⟩) ?_
        intro u_4 H locs h_5 hP hD hS
        have hP : va_P g.1 vwCl [(h0, .inr (0, [.int (nI ki), .int (nI kt), .int (nI kf), .int (nI km), .int (fr), .ref (h5), .ref (h6), .ref (h7)])), (h5, aJ g 720 ray), (h6, aI g 144 tg), (h7, aJ g 144 sl), (r0, .inr (2, [.int (nI ri), .int (nI ro), .ref (rn), .ref (rp)])), (rn, aI g 48 nu), (rp, aZ g 12 pt), (q_2, .inr (1, [.long (frT (((shF ray nu w ki kt 0 km (0, 0)).1)) (((shF ray nu w ki kt 0 km (0, 0)).2))), .long (frB (((shF ray nu w ki kt 0 km (0, 0)).1)) (((shF ray nu w ki kt 0 km (0, 0)).2)))]))] H := hP.sub [0, 1, 2, 3, 4, 5, 6, 7] rfl
        have hD : va_D A [(h0, .inr (0, [.int (nI ki), .int (nI kt), .int (nI kf), .int (nI km), .int (fr), .ref (h5), .ref (h6), .ref (h7)])), (h5, aJ g 720 ray), (h6, aI g 144 tg), (h7, aJ g 144 sl), (r0, .inr (2, [.int (nI ri), .int (nI ro), .ref (rn), .ref (rp)])), (rn, aI g 48 nu), (rp, aZ g 12 pt), (q_2, .inr (1, [.long (frT (((shF ray nu w ki kt 0 km (0, 0)).1)) (((shF ray nu w ki kt 0 km (0, 0)).2))), .long (frB (((shF ray nu w ki kt 0 km (0, 0)).1)) (((shF ray nu w ki kt 0 km (0, 0)).2)))]))] := hD.sub [0, 1, 2, 3, 4, 5, 6, 7] rfl rfl
        exact ret dX0_shareOf_111 () (trivial) hP hD hS
      · skip
        have c_1 := mt (nI_leI (by omega) (by omega)).mpr c_1
        refine lv_aload_n hx hb dX0_shareOf_17 rfl (lv_at hl 0 rfl) ?_
        refine lv_iload hx hb dX0_shareOf_18 (lv_at hl 5 rfl) ?_
        refine lv_aload_n hx hb dX0_shareOf_20 rfl (lv_at hl 1 rfl) ?_
        refine lv_iload_n hx hb dX0_shareOf_21 rfl (lv_at hl 2 rfl) ?_
        refine go_l (wc := [(h0, .inr (0, [.int (nI ki), .int (nI kt), .int (nI kf), .int (nI km), .int (fr), .ref (h5), .ref (h6), .ref (h7)])), (h5, aJ g 720 ray), (h6, aI g 144 tg), (h7, aJ g 144 sl), (r0, .inr (2, [.int (nI ri), .int (nI ro), .ref (rn), .ref (rp)])), (rn, aI g 48 nu), (rp, aZ g 12 pt)]) (wr := []) hP hD hS hA [0, 1, 2, 3, 4, 5, 6] [] rfl rfl rfl rfl (by decide) (fun hPc hDc => rn_V (As := [.int (nI k), .ref (r0), .int (nI w)]) (rest := []) ⟨hx, hb, hml, hown, hts⟩ ((c_X0_insWeighed l g h0 h5 h6 h7 ki kt kf km fr ray tg sl r0 rn rp ri ro nu pt k w (by omega) (by omega) (by omega)) _) (cwV 3 hts gX0_shareOf_X0_insWeighed rfl rfl rfl (by decide +kernel) ⟨Nat.le_of_ble_eq_true rfl, Nat.le_of_ble_eq_true rfl⟩) hK hN hPc hDc 0 rfl rfl rfl rfl hl.1 (Nat.le_of_ble_eq_true rfl) dX0_shareOf_22 ⟨Nat.le_of_ble_eq_true rfl, Nat.le_of_ble_eq_true rfl⟩) ?_
        intro r_6 u_7 H locs h_8 hP hD hS
        have hP : va_P g.1 vwCl [(h0, .inr (0, [.int (nI ki), .int (nI kt), .int (nI kf), .int (nI km), .int (fr), .ref (h5), .ref (h6), .ref (h7)])), (h5, aJ g 720 ray), (h6, aI g 144 tg), (h7, aJ g 144 sl), (r0, .inr (2, [.int (nI ri), .int (nI ro), .ref (rn), .ref (rp)])), (rn, aI g 48 nu), (rp, aZ g 12 pt)] H := hP.sub [0, 1, 2, 3, 4, 5, 6] rfl
        have hD : va_D A [(h0, .inr (0, [.int (nI ki), .int (nI kt), .int (nI kf), .int (nI km), .int (fr), .ref (h5), .ref (h6), .ref (h7)])), (h5, aJ g 720 ray), (h6, aI g 144 tg), (h7, aJ g 144 sl), (r0, .inr (2, [.int (nI ri), .int (nI ro), .ref (rn), .ref (rp)])), (rn, aI g 48 nu), (rp, aZ g 12 pt)] := hD.sub [0, 1, 2, 3, 4, 5, 6] rfl rfl
        have h_8 : r_6 = insW ray nu k w ki := h_8
        subst h_8
        refine lv_lstore (lv' := [(8, .long (insW ray nu k w ki)), (0, .ref (h0)), (1, .ref (r0)), (2, .int (nI w)), (3, .long (tp)), (5, .long (bt)), (7, .int (nI k))]) hx hb dX0_shareOf_25 hl (by decide) rfl (fun ls hl => ?_)
        refine lv_aload_n hx hb dX0_shareOf_27 rfl (lv_at hl 1 rfl) ?_
        refine lv_iload hx hb dX0_shareOf_28 (lv_at hl 6 rfl) ?_
        refine lv_aload_n hx hb dX0_shareOf_30 rfl (lv_at hl 2 rfl) ?_
        refine lv_iload_n hx hb dX0_shareOf_31 rfl (lv_at hl 3 rfl) ?_
        refine go_l (wc := [(h0, .inr (0, [.int (nI ki), .int (nI kt), .int (nI kf), .int (nI km), .int (fr), .ref (h5), .ref (h6), .ref (h7)])), (h5, aJ g 720 ray), (h6, aI g 144 tg), (h7, aJ g 144 sl), (r0, .inr (2, [.int (nI ri), .int (nI ro), .ref (rn), .ref (rp)])), (rn, aI g 48 nu), (rp, aZ g 12 pt)]) (wr := []) hP hD hS hA [0, 1, 2, 3, 4, 5, 6] [] rfl rfl rfl rfl (by decide) (fun hPc hDc => rn_V (As := [.int (nI k), .ref (r0), .int (nI w)]) (rest := []) ⟨hx, hb, hml, hown, hts⟩ ((c_X0_outsWeighed l g h0 h5 h6 h7 ki kt kf km fr ray tg sl r0 rn rp ri ro nu pt k w (by omega) (by omega) (by omega) (by omega)) _) (cwV 3 hts gX0_shareOf_X0_outsWeighed rfl rfl rfl (by decide +kernel) ⟨Nat.le_of_ble_eq_true rfl, Nat.le_of_ble_eq_true rfl⟩) hK hN hPc hDc 0 rfl rfl rfl rfl hl.1 (Nat.le_of_ble_eq_true rfl) dX0_shareOf_32 ⟨Nat.le_of_ble_eq_true rfl, Nat.le_of_ble_eq_true rfl⟩) ?_
        intro r_9 u_10 H locs h_11 hP hD hS
        have hP : va_P g.1 vwCl [(h0, .inr (0, [.int (nI ki), .int (nI kt), .int (nI kf), .int (nI km), .int (fr), .ref (h5), .ref (h6), .ref (h7)])), (h5, aJ g 720 ray), (h6, aI g 144 tg), (h7, aJ g 144 sl), (r0, .inr (2, [.int (nI ri), .int (nI ro), .ref (rn), .ref (rp)])), (rn, aI g 48 nu), (rp, aZ g 12 pt)] H := hP.sub [0, 1, 2, 3, 4, 5, 6] rfl
        have hD : va_D A [(h0, .inr (0, [.int (nI ki), .int (nI kt), .int (nI kf), .int (nI km), .int (fr), .ref (h5), .ref (h6), .ref (h7)])), (h5, aJ g 720 ray), (h6, aI g 144 tg), (h7, aJ g 144 sl), (r0, .inr (2, [.int (nI ri), .int (nI ro), .ref (rn), .ref (rp)])), (rn, aI g 48 nu), (rp, aZ g 12 pt)] := hD.sub [0, 1, 2, 3, 4, 5, 6] rfl rfl
        have h_11 : r_9 = outsW ray nu k w kt ki (kt - ki) := h_11
        subst h_11
        refine lv_lstore (lv' := [(10, .long (outsW ray nu k w kt ki (kt - ki))), (8, .long (insW ray nu k w ki)), (0, .ref (h0)), (1, .ref (r0)), (2, .int (nI w)), (3, .long (tp)), (5, .long (bt)), (7, .int (nI k))]) hx hb dX0_shareOf_35 hl (by decide) rfl (fun ls hl => ?_)
        refine lv_lload hx hb dX0_shareOf_37 (lv_at hl 1 rfl) ?_
        refine lv_lconst (v := 0) hx hb dX0_shareOf_39 (by decide) ?_
        refine W.lcmp hx hb dX0_shareOf_40 ?_
        have lp_61 : ¬ (insW ray nu k w ki = 0 ∧ 0 < outsW ray nu k w kt ki (kt - ki)) → ∀ (H : Heap) (locs : List Loc), va_P g.1 vwCl [(h0, .inr (0, [.int (nI ki), .int (nI kt), .int (nI kf), .int (nI km), .int (fr), .ref (h5), .ref (h6), .ref (h7)])), (h5, aJ g 720 ray), (h6, aI g 144 tg), (h7, aJ g 144 sl), (r0, .inr (2, [.int (nI ri), .int (nI ro), .ref (rn), .ref (rp)])), (rn, aI g 48 nu), (rp, aZ g 12 pt)] H → va_D A [(h0, .inr (0, [.int (nI ki), .int (nI kt), .int (nI kf), .int (nI km), .int (fr), .ref (h5), .ref (h6), .ref (h7)])), (h5, aJ g 720 ray), (h6, aI g 144 tg), (h7, aJ g 144 sl), (r0, .inr (2, [.int (nI ri), .int (nI ro), .ref (rn), .ref (rp)])), (rn, aI g 48 nu), (rp, aZ g 12 pt)] → va_S A s.heap H locs → ∀ ls : Array Slot, lv_has ls 12 [(0, .ref (h0)), (1, .ref (r0)), (2, .int (nI w)), (3, .long (tp)), (5, .long (bt)), (7, .int (nI k)), (8, .long (insW ray nu k w ki)), (10, .long (outsW ray nu k w kt ki (kt - ki)))] → W p l e { frames := 2, cells := 1, slots := 2, locals := 56 } s m args below meth c H locs 0 0 Q (F0 m 61 ls []) := by
          intro  hno H locs hP hD hS ls hl
          refine lv_lload hx hb dX0_shareOf_61 (lv_at hl 6 rfl) ?_
          refine lv_lconst (v := 0) hx hb dX0_shareOf_63 (by decide) ?_
          refine W.lcmp hx hb dX0_shareOf_64 ?_
          refine lv_if_le (tgt := 95) hx hb dX0_shareOf_65 (by decide) (fun c_12 => ?_) (fun c_12 => ?_)
          · skip
            have c_12 := (lc_le _ _).mp c_12
            have hv2 : shF ray nu w ki kt 0 km (0, 0) = shF ray nu w ki kt (k + 1) (km - (k + 1)) (tp, bt) := by rw [hv, show km - k = (km - (k + 1)) + 1 by omega, shF, if_neg hno, if_neg (fun q => by have q := q.1; rw [i64_lt] at q; rw [i64_le] at c_12; omega)]
            refine lv_iinc (v := nI (k + 1)) (lv' := [(7, .int (nI (k + 1))), (0, .ref (h0)), (1, .ref (r0)), (2, .int (nI w)), (3, .long (tp)), (5, .long (bt)), (8, .long (insW ray nu k w ki)), (10, .long (outsW ray nu k w kt ki (kt - ki)))]) hx hb dX0_shareOf_95 hl (k := 5) rfl (nI_inc1 k) (by decide) rfl (fun ls hl => ?_)
            refine lv_goto (tgt := 8) hx hb dX0_shareOf_98 (by decide) ?_
            exact ih_8 (k + 1) tp bt (by omega) (by omega) hv2 _ _ hP hD hS ls (lv_sub hl [1, 2, 3, 4, 5, 0] rfl)
          · skip
            have c_12 := mt (lc_le _ _).mpr c_12
            have hi1 : 0 < insW ray nu k w ki := by rw [i64_lt]; rw [i64_le] at c_12; omega
            refine lv_lload hx hb dX0_shareOf_68 (lv_at hl 4 rfl) ?_
            refine lv_lconst (v := 0) hx hb dX0_shareOf_70 (by decide) ?_
            refine W.lcmp hx hb dX0_shareOf_71 ?_
            refine lv_if_eq (tgt := 88) hx hb dX0_shareOf_72 (by decide) (fun c_13 => ?_) (fun c_13 => ?_)
            · skip
              have c_13 := (lc_eq _ _).mp c_13
              have hv2 : shF ray nu w ki kt 0 km (0, 0) = shF ray nu w ki kt (k + 1) (km - (k + 1)) (outsW ray nu k w kt ki (kt - ki), insW ray nu k w ki) := by rw [hv, show km - k = (km - (k + 1)) + 1 by omega, shF, if_neg hno, if_pos ⟨hi1, Or.inl c_13⟩]
              refine lv_lload hx hb dX0_shareOf_88 (lv_at hl 7 rfl) ?_
              refine lv_lstore_n (lv' := [(3, .long (outsW ray nu k w kt ki (kt - ki))), (0, .ref (h0)), (1, .ref (r0)), (2, .int (nI w)), (5, .long (bt)), (7, .int (nI k)), (8, .long (insW ray nu k w ki)), (10, .long (outsW ray nu k w kt ki (kt - ki)))]) hx hb dX0_shareOf_90 rfl hl (by decide) rfl (fun ls hl => ?_)
              refine lv_lload hx hb dX0_shareOf_91 (lv_at hl 6 rfl) ?_
              refine lv_lstore (lv' := [(5, .long (insW ray nu k w ki)), (3, .long (outsW ray nu k w kt ki (kt - ki))), (0, .ref (h0)), (1, .ref (r0)), (2, .int (nI w)), (7, .int (nI k)), (8, .long (insW ray nu k w ki)), (10, .long (outsW ray nu k w kt ki (kt - ki)))]) hx hb dX0_shareOf_93 hl (by decide) rfl (fun ls hl => ?_)
              refine lv_iinc (v := nI (k + 1)) (lv' := [(7, .int (nI (k + 1))), (5, .long (insW ray nu k w ki)), (3, .long (outsW ray nu k w kt ki (kt - ki))), (0, .ref (h0)), (1, .ref (r0)), (2, .int (nI w)), (8, .long (insW ray nu k w ki)), (10, .long (outsW ray nu k w kt ki (kt - ki)))]) hx hb dX0_shareOf_95 hl (k := 5) rfl (nI_inc1 k) (by decide) rfl (fun ls hl => ?_)
              refine lv_goto (tgt := 8) hx hb dX0_shareOf_98 (by decide) ?_
              exact ih_8 (k + 1) (outsW ray nu k w kt ki (kt - ki)) (insW ray nu k w ki) (by omega) (by omega) hv2 _ _ hP hD hS ls (lv_sub hl [3, 4, 5, 2, 1, 0] rfl)
            · skip
              have c_13 := mt (lc_eq _ _).mpr c_13
              have hb0 := c_13
              refine lv_lload hx hb dX0_shareOf_75 (lv_at hl 7 rfl) ?_
              refine lv_lload hx hb dX0_shareOf_77 (lv_at hl 4 rfl) ?_
              refine lv_lmul hx hb dX0_shareOf_79 ?_
              refine lv_lload_n hx hb dX0_shareOf_80 rfl (lv_at hl 3 rfl) ?_
              refine lv_lload hx hb dX0_shareOf_81 (lv_at hl 6 rfl) ?_
              refine lv_lmul hx hb dX0_shareOf_83 ?_
              refine W.lcmp hx hb dX0_shareOf_84 ?_
              refine lv_if_le (tgt := 95) hx hb dX0_shareOf_85 (by decide) (fun c_14 => ?_) (fun c_14 => ?_)
              · skip
                have c_14 := (lc_le _ _).mp c_14
                have hv2 : shF ray nu w ki kt 0 km (0, 0) = shF ray nu w ki kt (k + 1) (km - (k + 1)) (tp, bt) := by rw [hv, show km - k = (km - (k + 1)) + 1 by omega, shF, if_neg hno, if_neg (fun q => q.2.elim hb0 (fun q => by have q : tp * insW ray nu k w ki < outsW ray nu k w kt ki (kt - ki) * bt := q; rw [i64_lt] at q; rw [i64_le] at c_14; omega))]
                refine lv_iinc (v := nI (k + 1)) (lv' := [(7, .int (nI (k + 1))), (0, .ref (h0)), (1, .ref (r0)), (2, .int (nI w)), (3, .long (tp)), (5, .long (bt)), (8, .long (insW ray nu k w ki)), (10, .long (outsW ray nu k w kt ki (kt - ki)))]) hx hb dX0_shareOf_95 hl (k := 5) rfl (nI_inc1 k) (by decide) rfl (fun ls hl => ?_)
                refine lv_goto (tgt := 8) hx hb dX0_shareOf_98 (by decide) ?_
                exact ih_8 (k + 1) tp bt (by omega) (by omega) hv2 _ _ hP hD hS ls (lv_sub hl [1, 2, 3, 4, 5, 0] rfl)
              · skip
                have c_14 := mt (lc_le _ _).mpr c_14
                have hv2 : shF ray nu w ki kt 0 km (0, 0) = shF ray nu w ki kt (k + 1) (km - (k + 1)) (outsW ray nu k w kt ki (kt - ki), insW ray nu k w ki) := by rw [hv, show km - k = (km - (k + 1)) + 1 by omega, shF, if_neg hno, if_pos ⟨hi1, Or.inr (show tp * insW ray nu k w ki < outsW ray nu k w kt ki (kt - ki) * bt by rw [i64_lt]; rw [i64_le] at c_14; omega)⟩]
                refine lv_lload hx hb dX0_shareOf_88 (lv_at hl 7 rfl) ?_
                refine lv_lstore_n (lv' := [(3, .long (outsW ray nu k w kt ki (kt - ki))), (0, .ref (h0)), (1, .ref (r0)), (2, .int (nI w)), (5, .long (bt)), (7, .int (nI k)), (8, .long (insW ray nu k w ki)), (10, .long (outsW ray nu k w kt ki (kt - ki)))]) hx hb dX0_shareOf_90 rfl hl (by decide) rfl (fun ls hl => ?_)
                refine lv_lload hx hb dX0_shareOf_91 (lv_at hl 6 rfl) ?_
                refine lv_lstore (lv' := [(5, .long (insW ray nu k w ki)), (3, .long (outsW ray nu k w kt ki (kt - ki))), (0, .ref (h0)), (1, .ref (r0)), (2, .int (nI w)), (7, .int (nI k)), (8, .long (insW ray nu k w ki)), (10, .long (outsW ray nu k w kt ki (kt - ki)))]) hx hb dX0_shareOf_93 hl (by decide) rfl (fun ls hl => ?_)
                refine lv_iinc (v := nI (k + 1)) (lv' := [(7, .int (nI (k + 1))), (5, .long (insW ray nu k w ki)), (3, .long (outsW ray nu k w kt ki (kt - ki))), (0, .ref (h0)), (1, .ref (r0)), (2, .int (nI w)), (8, .long (insW ray nu k w ki)), (10, .long (outsW ray nu k w kt ki (kt - ki)))]) hx hb dX0_shareOf_95 hl (k := 5) rfl (nI_inc1 k) (by decide) rfl (fun ls hl => ?_)
                refine lv_goto (tgt := 8) hx hb dX0_shareOf_98 (by decide) ?_
                exact ih_8 (k + 1) (outsW ray nu k w kt ki (kt - ki)) (insW ray nu k w ki) (by omega) (by omega) hv2 _ _ hP hD hS ls (lv_sub hl [3, 4, 5, 2, 1, 0] rfl)
        refine lv_if_ne (tgt := 61) hx hb dX0_shareOf_41 (by decide) (fun c_15 => ?_) (fun c_15 => ?_)
        · skip
          have c_15 := mt (lc_eq _ _).mpr c_15
          have hno : ¬ (insW ray nu k w ki = 0 ∧ 0 < outsW ray nu k w kt ki (kt - ki)) := fun q => c_15 q.1
          exact lp_61  hno _ _ hP hD hS ls (lv_sub hl [2, 3, 4, 5, 6, 7, 1, 0] rfl)
        · skip
          have c_15 := (lc_eq _ _).mp c_15
          have hi0 := c_15
          refine lv_lload hx hb dX0_shareOf_44 (lv_at hl 0 rfl) ?_
          refine lv_lconst (v := 0) hx hb dX0_shareOf_46 (by decide) ?_
          refine W.lcmp hx hb dX0_shareOf_47 ?_
          refine lv_if_le (tgt := 61) hx hb dX0_shareOf_48 (by decide) (fun c_16 => ?_) (fun c_16 => ?_)
          · skip
            have c_16 := (lc_le _ _).mp c_16
            have hno : ¬ (insW ray nu k w ki = 0 ∧ 0 < outsW ray nu k w kt ki (kt - ki)) := fun q => by have q := q.2; rw [i64_lt] at q; rw [i64_le] at c_16; omega
            exact lp_61  hno _ _ hP hD hS ls (lv_sub hl [2, 3, 4, 5, 6, 7, 1, 0] rfl)
          · skip
            have c_16 := mt (lc_le _ _).mpr c_16
            have ho0 : 0 < outsW ray nu k w kt ki (kt - ki) := by rw [i64_lt]; rw [i64_le] at c_16; omega
            have hz : shF ray nu w ki kt 0 km (0, 0) = (0, 0) := by rw [hv, show km - k = (km - (k + 1)) + 1 by omega, shF, if_pos ⟨hi0, ho0⟩]
            refine va_new (ci := 1) (fs := [.long (0), .long (0)]) (C := RX1) (T := TX1) (N := 2) hx hb hts iw_X0_shareOf_X1 tyX1 tyX1_ok hown (hts (.classLink RX0 102 RX1) (by decide +kernel)) (hts (.instantiable RX1 2) (by decide +kernel)) (hts (.initialized RX1) (by decide +kernel)) hK hP hD hS hA rfl (by decide) (Nat.le_of_ble_eq_true rfl) (Nat.le_of_ble_eq_true rfl) dX0_shareOf_51 (fun q_17 H hP hD hS => ?_)
            have hP : va_P g.1 vwCl [(h0, .inr (0, [.int (nI ki), .int (nI kt), .int (nI kf), .int (nI km), .int (fr), .ref (h5), .ref (h6), .ref (h7)])), (h5, aJ g 720 ray), (h6, aI g 144 tg), (h7, aJ g 144 sl), (r0, .inr (2, [.int (nI ri), .int (nI ro), .ref (rn), .ref (rp)])), (rn, aI g 48 nu), (rp, aZ g 12 pt), (q_17, .inr (1, [.long (0), .long (0)]))] H := hP
            have hD : va_D A [(h0, .inr (0, [.int (nI ki), .int (nI kt), .int (nI kf), .int (nI km), .int (fr), .ref (h5), .ref (h6), .ref (h7)])), (h5, aJ g 720 ray), (h6, aI g 144 tg), (h7, aJ g 144 sl), (r0, .inr (2, [.int (nI ri), .int (nI ro), .ref (rn), .ref (rp)])), (rn, aI g 48 nu), (rp, aZ g 12 pt), (q_17, .inr (1, [.long (0), .long (0)]))] := hD
            refine lv_dup hx hb dX0_shareOf_54 rfl ?_
            refine lv_lconst (v := 0) hx hb dX0_shareOf_55 (by decide) ?_
            refine lv_lconst (v := 0) hx hb dX0_shareOf_56 (by decide) ?_
            refine go_v (wc := [(q_17, .inr (1, [.long (0), .long (0)]))]) (wr := [(h0, .inr (0, [.int (nI ki), .int (nI kt), .int (nI kf), .int (nI km), .int (fr), .ref (h5), .ref (h6), .ref (h7)])), (h5, aJ g 720 ray), (h6, aI g 144 tg), (h7, aJ g 144 sl), (r0, .inr (2, [.int (nI ri), .int (nI ro), .ref (rn), .ref (rp)])), (rn, aI g 48 nu), (rp, aZ g 12 pt)]) hP hD hS hA [7] [0, 1, 2, 3, 4, 5, 6] rfl rfl rfl rfl (by decide) (fun hPc hDc => rn_IN (As := [.long (0), .long (0)]) (rest := [.ref (q_17)]) ⟨hx, hb, hml, hown, hts⟩ ((c_X1_init l g q_17 0 0 0 0 ) _) (⟨va_cnB 2 hts gX0_shareOf_X1_init_n104 rfl rfl rfl (hN.2 _ (List.mem_of_getElem? (i := 13) rfl)) (hts _ (by decide +kernel)) (by decide +kernel) ⟨Nat.le_of_ble_eq_true rfl, Nat.le_of_ble_eq_true rfl⟩, rfl, hts _ (by decide +kernel)⟩) hK hN hPc hDc rfl rfl hl.1 (Nat.le_of_ble_eq_true rfl) dX0_shareOf_57 ⟨Nat.le_of_ble_eq_true rfl, Nat.le_of_ble_eq_true rfl⟩) ?_
            intro u_19 H locs h_20 hP hD hS
            have hP : va_P g.1 vwCl [(h0, .inr (0, [.int (nI ki), .int (nI kt), .int (nI kf), .int (nI km), .int (fr), .ref (h5), .ref (h6), .ref (h7)])), (h5, aJ g 720 ray), (h6, aI g 144 tg), (h7, aJ g 144 sl), (r0, .inr (2, [.int (nI ri), .int (nI ro), .ref (rn), .ref (rp)])), (rn, aI g 48 nu), (rp, aZ g 12 pt), (q_17, .inr (1, [.long (frT 0 0), .long (frB 0 0)]))] H := hP.sub [0, 1, 2, 3, 4, 5, 6, 7] rfl
            have hD : va_D A [(h0, .inr (0, [.int (nI ki), .int (nI kt), .int (nI kf), .int (nI km), .int (fr), .ref (h5), .ref (h6), .ref (h7)])), (h5, aJ g 720 ray), (h6, aI g 144 tg), (h7, aJ g 144 sl), (r0, .inr (2, [.int (nI ri), .int (nI ro), .ref (rn), .ref (rp)])), (rn, aI g 48 nu), (rp, aZ g 12 pt), (q_17, .inr (1, [.long (frT 0 0), .long (frB 0 0)]))] := hD.sub [0, 1, 2, 3, 4, 5, 6, 7] rfl rfl
            exact ret dX0_shareOf_60 () (trivial) (by rw [hz]; exact hP) (by rw [hz]; exact hD) hS
  exact lp_8 (km - 0 + 1) 0 0 0 (by omega) (by omega) rfl _ _ hP hD hS ls (lv_sub hl [3, 4, 5, 2, 1, 0] rfl)
theorem iw_X0_cut_X0 : ∀ w ∈ wsX00, w ∈ wsX0_cut := by decide +kernel
theorem fm_X0_cut_56 : Cond.fieldLink RX0 56 "EdgeBench$Cone" "many" "I" ∈ wsX0_cut := by decide +kernel
theorem fm_X0_cut_19 : Cond.fieldLink RX0 19 "EdgeBench$Cone" "slack" "[J" ∈ wsX0_cut := by decide +kernel
theorem fm_X0_cut_15 : Cond.fieldLink RX0 15 "EdgeBench$Cone" "tight" "[I" ∈ wsX0_cut := by decide +kernel
set_option maxHeartbeats 4000000 in
set_option maxRecDepth 100000 in
theorem c_X0_cut (l : Launch) (g : Gt) (h0 : Nat) (h5 : Nat) (h6 : Nat) (h7 : Nat) (ki : Nat) (kt : Nat) (kf : Nat) (km : Nat) (fr : Int32) (ray : Nat → Int64) (tg : Nat → Int32) (sl : Nat → Int64) (r0 : Nat) (rn : Nat) (rp : Nat) (ri : Nat) (ro : Nat) (nu : Nat → Int32) (pt : Nat → Int32) (w : Nat) (hm : km ≤ 144) (hw : w < 12) (hi : ki ≤ 2) (hit : ki ≤ kt) (ht : kt ≤ 4) (hf : kf ≤ 8) : CV l yX0_cut wsX0_cut { frames := 2, cells := 0, slots := 0, locals := 58 } g [.ref (h0), .ref (r0), .int (nI w)] [(h0, .inr (0, [.int (nI ki), .int (nI kt), .int (nI kf), .int (nI km), .int (fr), .ref (h5), .ref (h6), .ref (h7)])), (h5, aJ g 720 ray), (h6, aI g 144 tg), (h7, aJ g 144 sl), (r0, .inr (2, [.int (nI ri), .int (nI ro), .ref (rn), .ref (rp)])), (rn, aI g 48 nu), (rp, aZ g 12 pt)] (fun (zu : Unit) => True) (fun (zu : Unit) => [(h0, .inr (0, [.int (nI ki), .int (nI kt), .int (nI kf), .int (nI ((cutF nu w ki kt kf (pL sl 0 (slk ray nu w ki kt) km) (km, ray, tg)).1)), .int (fr), .ref (h5), .ref (h6), .ref (h7)])), (h5, aJ g 720 ((cutF nu w ki kt kf (pL sl 0 (slk ray nu w ki kt) km) (km, ray, tg)).2.1)), (h6, aI g 144 ((cutF nu w ki kt kf (pL sl 0 (slk ray nu w ki kt) km) (km, ray, tg)).2.2)), (h7, aJ g 144 ((pL sl 0 (slk ray nu w ki kt) km))), (r0, .inr (2, [.int (nI ri), .int (nI ro), .ref (rn), .ref (rp)])), (rn, aI g 48 nu), (rp, aZ g 12 pt)]) 0 0 := by
  refine ent_v (cc := cX0_cut) (maxL := 7) (by decide) rfl (Nat.le_of_ble_eq_true rfl) ?_
  intro p e s m below meth c A args Q hE ret ls hl
  obtain ⟨hx, hb, hml, hown, hts, hnm, hA, hP, hD, hK, hN⟩ := hE
  have hS : va_S A s.heap s.heap [] := va_S.rf
  have hl : lv_has ls 7 [(0, .ref (h0)), (1, .ref (r0)), (2, .int (nI w))] := hl
  have hP : va_P g.1 vwCl [(h0, .inr (0, [.int (nI ki), .int (nI kt), .int (nI kf), .int (nI km), .int (fr), .ref (h5), .ref (h6), .ref (h7)])), (h5, aJ g 720 ray), (h6, aI g 144 tg), (h7, aJ g 144 sl), (r0, .inr (2, [.int (nI ri), .int (nI ro), .ref (rn), .ref (rp)])), (rn, aI g 48 nu), (rp, aZ g 12 pt)] s.heap := hP
  refine lv_iconst (v := nI 1) hx hb dX0_cut_0 (by decide) ?_
  refine lv_iconst (v := nI 5) hx hb dX0_cut_1 (by decide) ?_
  refine lv_iload_n hx hb dX0_cut_2 rfl (lv_at hl 2 rfl) ?_
  refine lv_iadd hx hb dX0_cut_3 ?_
  refine k_ei (y := nI (5 + w)) (nI_add _ _) ?_
  refine lv_ishl hx hb dX0_cut_4 ?_
  refine k_ei (y := bdW w) (rfl) ?_
  refine lv_istore_n (lv' := [(3, .int (bdW w)), (0, .ref (h0)), (1, .ref (r0)), (2, .int (nI w))]) hx hb dX0_cut_5 rfl hl (by decide) rfl (fun ls hl => ?_)
  refine lv_aload_n hx hb dX0_cut_6 rfl (lv_at hl 1 rfl) ?_
  refine k_get hx hb hts hown hK hP iw_X0_cut_X0 rfl 0 3 fm_X0_cut_56 (by decide) rfl rfl dX0_cut_7 ?_
  refine lv_istore (lv' := [(4, .int (nI km)), (3, .int (bdW w)), (0, .ref (h0)), (1, .ref (r0)), (2, .int (nI w))]) hx hb dX0_cut_10 hl (by decide) rfl (fun ls hl => ?_)
  refine lv_iconst (v := nI 0) hx hb dX0_cut_12 (by decide) ?_
  refine lv_istore (lv' := [(5, .int (nI 0)), (4, .int (nI km)), (3, .int (bdW w)), (0, .ref (h0)), (1, .ref (r0)), (2, .int (nI w))]) hx hb dX0_cut_13 hl (by decide) rfl (fun ls hl => ?_)
  have lp_15 : ∀ (n : Nat) (k : Nat), km - k < n → k ≤ km → ∀ (H : Heap) (locs : List Loc), va_P g.1 vwCl [(h0, .inr (0, [.int (nI ki), .int (nI kt), .int (nI kf), .int (nI km), .int (fr), .ref (h5), .ref (h6), .ref (h7)])), (h5, aJ g 720 ray), (h6, aI g 144 tg), (h7, aJ g 144 (pL sl 0 (slk ray nu w ki kt) k)), (r0, .inr (2, [.int (nI ri), .int (nI ro), .ref (rn), .ref (rp)])), (rn, aI g 48 nu), (rp, aZ g 12 pt)] H → va_D A [(h0, .inr (0, [.int (nI ki), .int (nI kt), .int (nI kf), .int (nI km), .int (fr), .ref (h5), .ref (h6), .ref (h7)])), (h5, aJ g 720 ray), (h6, aI g 144 tg), (h7, aJ g 144 (pL sl 0 (slk ray nu w ki kt) k)), (r0, .inr (2, [.int (nI ri), .int (nI ro), .ref (rn), .ref (rp)])), (rn, aI g 48 nu), (rp, aZ g 12 pt)] → va_S A s.heap H locs → ∀ ls : Array Slot, lv_has ls 7 [(0, .ref (h0)), (1, .ref (r0)), (2, .int (nI w)), (3, .int (bdW w)), (4, .int (nI km)), (5, .int (nI k))] → W p l e { frames := 2, cells := 0, slots := 0, locals := 58 } s m args below meth c H locs 0 0 Q (F0 m 15 ls []) := by
    intro n
    induction n with
    | zero =>
      intro k hms
      omega
    | succ n ih_15 =>
      intro k hms_15 hk H locs hP hD hS ls hl
      refine lv_iload hx hb dX0_cut_15 (lv_at hl 5 rfl) ?_
      refine lv_iload hx hb dX0_cut_17 (lv_at hl 4 rfl) ?_
      refine lv_icmp_ge (tgt := 52) hx hb dX0_cut_19 (by decide) (fun c_1 => ?_) (fun c_1 => ?_)
      · skip
        have c_1 := (nI_leI (by omega) (by omega)).mp c_1
        have hkm : k = km := by omega
        rw [hkm] at hP hD
        obtain ⟨s1, hs1⟩ : ∃ s1, s1 = pL sl 0 (slk ray nu w ki kt) km := ⟨_, rfl⟩
        rw [← hs1] at hP hD
        refine lv_iconst (v := nI 0) hx hb dX0_cut_52 (by decide) ?_
        refine lv_istore (lv' := [(5, .int (nI 0)), (0, .ref (h0)), (1, .ref (r0)), (2, .int (nI w)), (3, .int (bdW w)), (4, .int (nI km))]) hx hb dX0_cut_53 hl (by decide) rfl (fun ls hl => ?_)
        have lp_55 : ∀ (n : Nat) (v : Nat) (st : CS), km - v < n → v ≤ km → km ≤ st.1 ∧ st.1 ≤ 144 → ctO kt kf s1 (bdW w) km 0 km (km, ray, tg) = ctO kt kf s1 (bdW w) km v (km - v) st → ∀ (H : Heap) (locs : List Loc), va_P g.1 vwCl [(h0, .inr (0, [.int (nI ki), .int (nI kt), .int (nI kf), .int (nI st.1), .int (fr), .ref (h5), .ref (h6), .ref (h7)])), (h5, aJ g 720 st.2.1), (h6, aI g 144 st.2.2), (h7, aJ g 144 s1), (r0, .inr (2, [.int (nI ri), .int (nI ro), .ref (rn), .ref (rp)])), (rn, aI g 48 nu), (rp, aZ g 12 pt)] H → va_D A [(h0, .inr (0, [.int (nI ki), .int (nI kt), .int (nI kf), .int (nI st.1), .int (fr), .ref (h5), .ref (h6), .ref (h7)])), (h5, aJ g 720 st.2.1), (h6, aI g 144 st.2.2), (h7, aJ g 144 s1), (r0, .inr (2, [.int (nI ri), .int (nI ro), .ref (rn), .ref (rp)])), (rn, aI g 48 nu), (rp, aZ g 12 pt)] → va_S A s.heap H locs → ∀ ls : Array Slot, lv_has ls 7 [(0, .ref (h0)), (1, .ref (r0)), (2, .int (nI w)), (3, .int (bdW w)), (4, .int (nI km)), (5, .int (nI v))] → W p l e { frames := 2, cells := 0, slots := 0, locals := 58 } s m args below meth c H locs 0 0 Q (F0 m 55 ls []) := by
          intro n
          induction n with
          | zero =>
            intro v st hms
            omega
          | succ n ih_55 =>
            intro v st hms_55 hv0 hst hv H locs hP hD hS ls hl
            refine lv_iload hx hb dX0_cut_55 (lv_at hl 5 rfl) ?_
            refine lv_iload hx hb dX0_cut_57 (lv_at hl 4 rfl) ?_
            refine lv_icmp_ge (tgt := 130) hx hb dX0_cut_59 (by decide) (fun c_2 => ?_) (fun c_2 => ?_)
            · skip
              have c_2 := (nI_leI (by omega) (by omega)).mp c_2
              have hres : ctO kt kf s1 (bdW w) km 0 km (km, ray, tg) = st := by rw [hv, show km - v = 0 by omega]; rfl
              refine lv_iconst (v := nI 0) hx hb dX0_cut_130 (by decide) ?_
              refine lv_istore (lv' := [(5, .int (nI 0)), (0, .ref (h0)), (1, .ref (r0)), (2, .int (nI w)), (3, .int (bdW w)), (4, .int (nI km))]) hx hb dX0_cut_131 hl (by decide) rfl (fun ls hl => ?_)
              refine lv_iconst (v := nI 0) hx hb dX0_cut_133 (by decide) ?_
              refine lv_istore (lv' := [(6, .int (nI 0)), (5, .int (nI 0)), (0, .ref (h0)), (1, .ref (r0)), (2, .int (nI w)), (3, .int (bdW w)), (4, .int (nI km))]) hx hb dX0_cut_134 hl (by decide) rfl (fun ls hl => ?_)
              have lp_136 : ∀ (n : Nat) (r : Nat) (q : CS), st.1 - r < n → r ≤ st.1 → q.1 ≤ r → cmL kt s1 (bdW w) km 0 st.1 (0, st.2) = cmL kt s1 (bdW w) km r (st.1 - r) q → ∀ (H : Heap) (locs : List Loc), va_P g.1 vwCl [(h0, .inr (0, [.int (nI ki), .int (nI kt), .int (nI kf), .int (nI st.1), .int (fr), .ref (h5), .ref (h6), .ref (h7)])), (h5, aJ g 720 q.2.1), (h6, aI g 144 q.2.2), (h7, aJ g 144 s1), (r0, .inr (2, [.int (nI ri), .int (nI ro), .ref (rn), .ref (rp)])), (rn, aI g 48 nu), (rp, aZ g 12 pt)] H → va_D A [(h0, .inr (0, [.int (nI ki), .int (nI kt), .int (nI kf), .int (nI st.1), .int (fr), .ref (h5), .ref (h6), .ref (h7)])), (h5, aJ g 720 q.2.1), (h6, aI g 144 q.2.2), (h7, aJ g 144 s1), (r0, .inr (2, [.int (nI ri), .int (nI ro), .ref (rn), .ref (rp)])), (rn, aI g 48 nu), (rp, aZ g 12 pt)] → va_S A s.heap H locs → ∀ ls : Array Slot, lv_has ls 7 [(0, .ref (h0)), (1, .ref (r0)), (2, .int (nI w)), (3, .int (bdW w)), (4, .int (nI km)), (5, .int (nI q.1)), (6, .int (nI r))] → W p l e { frames := 2, cells := 0, slots := 0, locals := 58 } s m args below meth c H locs 0 0 Q (F0 m 136 ls []) := by
                intro n
                induction n with
                | zero =>
                  intro r q hms
                  omega
                | succ n ih_136 =>
                  intro r q hms_136 hr0 hq hx9 H locs hP hD hS ls hl
                  refine lv_iload hx hb dX0_cut_136 (lv_at hl 6 rfl) ?_
                  refine lv_aload_n hx hb dX0_cut_138 rfl (lv_at hl 0 rfl) ?_
                  refine k_get hx hb hts hown hK hP iw_X0_cut_X0 rfl 0 3 fm_X0_cut_56 (by decide) rfl rfl dX0_cut_139 ?_
                  refine lv_icmp_ge (tgt := 211) hx hb dX0_cut_142 (by decide) (fun c_3 => ?_) (fun c_3 => ?_)
                  · skip
                    have c_3 := (nI_leI (by omega) (by omega)).mp c_3
                    have hfin : cmL kt s1 (bdW w) km 0 st.1 (0, st.2) = q := by rw [hx9, show st.1 - r = 0 by omega]; rfl
                    refine lv_aload_n hx hb dX0_cut_211 rfl (lv_at hl 0 rfl) ?_
                    refine lv_iload hx hb dX0_cut_212 (lv_at hl 5 rfl) ?_
                    refine k_put hx hb hts hown hK hP hD hS iw_X0_cut_X0 rfl tyX0 tyX0_ok nmX0 0 3 fm_X0_cut_56 (by decide) rfl rfl rfl rfl rfl (Nat.le_of_ble_eq_true rfl) dX0_cut_214 (fun H locs hP hD hS => ?_)
                    have hP : va_P g.1 vwCl [(h0, .inr (0, [.int (nI ki), .int (nI kt), .int (nI kf), .int (nI q.1), .int (fr), .ref (h5), .ref (h6), .ref (h7)])), (h5, aJ g 720 q.2.1), (h6, aI g 144 q.2.2), (h7, aJ g 144 s1), (r0, .inr (2, [.int (nI ri), .int (nI ro), .ref (rn), .ref (rp)])), (rn, aI g 48 nu), (rp, aZ g 12 pt)] H := hP
                    have hD : va_D A [(h0, .inr (0, [.int (nI ki), .int (nI kt), .int (nI kf), .int (nI q.1), .int (fr), .ref (h5), .ref (h6), .ref (h7)])), (h5, aJ g 720 q.2.1), (h6, aI g 144 q.2.2), (h7, aJ g 144 s1), (r0, .inr (2, [.int (nI ri), .int (nI ro), .ref (rn), .ref (rp)])), (rn, aI g 48 nu), (rp, aZ g 12 pt)] := hD
                    subst hs1
                    have hcf : cutF nu w ki kt kf (pL sl 0 (slk ray nu w ki kt) km) (km, ray, tg) = q := by rw [cutF, hres]; exact hfin
                    exact ret dX0_cut_217 () (trivial) (by rw [hcf]; exact hP) (by rw [hcf]; exact hD) hS
                  · skip
                    have c_3 := mt (nI_leI (by omega) (by omega)).mpr c_3
                    refine lv_iload hx hb dX0_cut_145 (lv_at hl 6 rfl) ?_
                    refine lv_iload hx hb dX0_cut_147 (lv_at hl 4 rfl) ?_
                    have lp_194 : ∀ (tq : Nat → Int32), cmT s1 (bdW w) km r q.2.2 = tq → ¬ (r < km ∧ s1 r < 0) → r < st.1 → ∀ (H : Heap) (locs : List Loc), va_P g.1 vwCl [(h0, .inr (0, [.int (nI ki), .int (nI kt), .int (nI kf), .int (nI st.1), .int (fr), .ref (h5), .ref (h6), .ref (h7)])), (h5, aJ g 720 q.2.1), (h6, aI g 144 tq), (h7, aJ g 144 s1), (r0, .inr (2, [.int (nI ri), .int (nI ro), .ref (rn), .ref (rp)])), (rn, aI g 48 nu), (rp, aZ g 12 pt)] H → va_D A [(h0, .inr (0, [.int (nI ki), .int (nI kt), .int (nI kf), .int (nI st.1), .int (fr), .ref (h5), .ref (h6), .ref (h7)])), (h5, aJ g 720 q.2.1), (h6, aI g 144 tq), (h7, aJ g 144 s1), (r0, .inr (2, [.int (nI ri), .int (nI ro), .ref (rn), .ref (rp)])), (rn, aI g 48 nu), (rp, aZ g 12 pt)] → va_S A s.heap H locs → ∀ ls : Array Slot, lv_has ls 7 [(0, .ref (h0)), (1, .ref (r0)), (2, .int (nI w)), (3, .int (bdW w)), (4, .int (nI km)), (5, .int (nI q.1)), (6, .int (nI r))] → W p l e { frames := 2, cells := 0, slots := 0, locals := 58 } s m args below meth c H locs 0 0 Q (F0 m 194 ls []) := by
                      intro tq hct hns hrl H locs hP hD hS ls hl
                      refine lv_aload_n hx hb dX0_cut_194 rfl (lv_at hl 0 rfl) ?_
                      refine lv_iload hx hb dX0_cut_195 (lv_at hl 6 rfl) ?_
                      refine lv_iload hx hb dX0_cut_197 (lv_at hl 5 rfl) ?_
                      refine go_v (wc := [(h0, .inr (0, [.int (nI ki), .int (nI kt), .int (nI kf), .int (nI st.1), .int (fr), .ref (h5), .ref (h6), .ref (h7)])), (h5, aJ g 720 q.2.1), (h6, aI g 144 tq), (h7, aJ g 144 s1)]) (wr := [(r0, .inr (2, [.int (nI ri), .int (nI ro), .ref (rn), .ref (rp)])), (rn, aI g 48 nu), (rp, aZ g 12 pt)]) hP hD hS hA [0, 1, 2, 3] [4, 5, 6] rfl rfl rfl rfl (by decide) (fun hPc hDc => rn_V (As := [.int (nI r), .int (nI q.1)]) (rest := []) ⟨hx, hb, hml, hown, hts⟩ ((c_X0_move l g h0 h5 h6 h7 ki kt kf st.1 fr q.2.1 tq s1 r q.1 (by omega) (by omega) (by omega)) _) (cwV 2 hts gX0_cut_X0_move rfl rfl rfl (by decide +kernel) ⟨Nat.le_of_ble_eq_true rfl, Nat.le_of_ble_eq_true rfl⟩) hK hN hPc hDc 0 rfl rfl rfl rfl hl.1 (Nat.le_of_ble_eq_true rfl) dX0_cut_199 ⟨Nat.le_of_ble_eq_true rfl, Nat.le_of_ble_eq_true rfl⟩) ?_
                      intro u_5 H locs h_6 hP hD hS
                      have hP : va_P g.1 vwCl [(h0, .inr (0, [.int (nI ki), .int (nI kt), .int (nI kf), .int (nI st.1), .int (fr), .ref (h5), .ref (h6), .ref (h7)])), (h5, aJ g 720 (mvL kt r q.1 q.2.1)), (h6, aI g 144 (upd tq q.1 (tq r))), (h7, aJ g 144 s1), (r0, .inr (2, [.int (nI ri), .int (nI ro), .ref (rn), .ref (rp)])), (rn, aI g 48 nu), (rp, aZ g 12 pt)] H := hP.sub [3, 4, 5, 6, 0, 1, 2] rfl
                      have hD : va_D A [(h0, .inr (0, [.int (nI ki), .int (nI kt), .int (nI kf), .int (nI st.1), .int (fr), .ref (h5), .ref (h6), .ref (h7)])), (h5, aJ g 720 (mvL kt r q.1 q.2.1)), (h6, aI g 144 (upd tq q.1 (tq r))), (h7, aJ g 144 s1), (r0, .inr (2, [.int (nI ri), .int (nI ro), .ref (rn), .ref (rp)])), (rn, aI g 48 nu), (rp, aZ g 12 pt)] := hD.sub [3, 4, 5, 6, 0, 1, 2] rfl rfl
                      have hcm : cmS kt s1 (bdW w) km r q = (q.1 + 1, mvL kt r q.1 q.2.1, upd tq q.1 (tq r)) := by rw [cmS, if_neg hns, hct]
                      have hx2 : cmL kt s1 (bdW w) km 0 st.1 (0, st.2) = cmL kt s1 (bdW w) km (r + 1) (st.1 - (r + 1)) (q.1 + 1, mvL kt r q.1 q.2.1, upd tq q.1 (tq r)) := by rw [hx9, show st.1 - r = (st.1 - (r + 1)) + 1 by omega, cmL, hcm]
                      refine lv_iinc (v := nI (q.1 + 1)) (lv' := [(5, .int (nI (q.1 + 1))), (0, .ref (h0)), (1, .ref (r0)), (2, .int (nI w)), (3, .int (bdW w)), (4, .int (nI km)), (6, .int (nI r))]) hx hb dX0_cut_202 hl (k := 5) rfl (nI_inc1 q.1) (by decide) rfl (fun ls hl => ?_)
                      refine lv_iinc (v := nI (r + 1)) (lv' := [(6, .int (nI (r + 1))), (5, .int (nI (q.1 + 1))), (0, .ref (h0)), (1, .ref (r0)), (2, .int (nI w)), (3, .int (bdW w)), (4, .int (nI km))]) hx hb dX0_cut_205 hl (k := 6) rfl (nI_inc1 r) (by decide) rfl (fun ls hl => ?_)
                      refine lv_goto (tgt := 136) hx hb dX0_cut_208 (by decide) ?_
                      exact ih_136 (r + 1) (((q.1 + 1, mvL kt r q.1 q.2.1, upd tq q.1 (tq r)) : CS)) (by omega) (by omega) (by show q.1 + 1 ≤ r + 1; omega) hx2 _ _ hP hD hS ls (lv_sub hl [2, 3, 4, 5, 6, 1, 0] rfl)
                    refine lv_icmp_ge (tgt := 164) hx hb dX0_cut_149 (by decide) (fun c_7 => ?_) (fun c_7 => ?_)
                    · skip
                      have c_7 := (nI_leI (by omega) (by omega)).mp c_7
                      have hge : ¬ r < km := by omega
                      have hct : cmT s1 (bdW w) km r q.2.2 = q.2.2 := if_neg (fun z => hge z.1)
                      have hns : ¬ (r < km ∧ s1 r < 0) := fun z => hge z.1
                      refine lv_iload hx hb dX0_cut_164 (lv_at hl 6 rfl) ?_
                      refine lv_iload hx hb dX0_cut_166 (lv_at hl 4 rfl) ?_
                      refine lv_icmp_ge (tgt := 194) hx hb dX0_cut_168 (by decide) (fun c_8 => ?_) (fun c_8 => ?_)
                      · skip
                        have c_8 := (nI_leI (by omega) (by omega)).mp c_8
                        have hct : cmT s1 (bdW w) km r q.2.2 = q.2.2 := if_neg (fun z => by omega)
                        exact lp_194 q.2.2 hct hns (by omega) _ _ hP hD hS ls (lv_sub hl [0, 1, 2, 3, 4, 5, 6] rfl)
                      · skip
                        have c_8 := mt (nI_leI (by omega) (by omega)).mpr c_8
                        have hlt : r < km := by omega
                        refine lv_aload_n hx hb dX0_cut_171 rfl (lv_at hl 0 rfl) ?_
                        refine k_get hx hb hts hown hK hP iw_X0_cut_X0 rfl 0 7 fm_X0_cut_19 (by decide) rfl rfl dX0_cut_172 ?_
                        refine lv_iload hx hb dX0_cut_175 (lv_at hl 6 rfl) ?_
                        refine k_lald hx hb hK hP 3 rfl (by omega) (by omega) dX0_cut_177 ?_
                        refine lv_lconst (v := 0) hx hb dX0_cut_178 (by decide) ?_
                        refine W.lcmp hx hb dX0_cut_179 ?_
                        refine lv_if_ne (tgt := 194) hx hb dX0_cut_180 (by decide) (fun c_9 => ?_) (fun c_9 => ?_)
                        · skip
                          have c_9 := mt (lc_eq _ _).mpr c_9
                          have hct : cmT s1 (bdW w) km r q.2.2 = q.2.2 := if_neg (fun z => c_9 z.2)
                          exact lp_194 q.2.2 hct hns (by omega) _ _ hP hD hS ls (lv_sub hl [0, 1, 2, 3, 4, 5, 6] rfl)
                        · skip
                          have c_9 := (lc_eq _ _).mp c_9
                          have hct : cmT s1 (bdW w) km r q.2.2 = upd q.2.2 r (q.2.2 r ||| bdW w) := if_pos ⟨hlt, c_9⟩
                          refine lv_aload_n hx hb dX0_cut_183 rfl (lv_at hl 0 rfl) ?_
                          refine k_get hx hb hts hown hK hP iw_X0_cut_X0 rfl 0 6 fm_X0_cut_15 (by decide) rfl rfl dX0_cut_184 ?_
                          refine lv_iload hx hb dX0_cut_187 (lv_at hl 6 rfl) ?_
                          refine lv_dup2_11 hx hb dX0_cut_189 rfl rfl ?_
                          refine k_iald hx hb hK hP 2 rfl (by omega) (by omega) dX0_cut_190 ?_
                          refine lv_iload_n hx hb dX0_cut_191 rfl (lv_at hl 3 rfl) ?_
                          refine lv_ior hx hb dX0_cut_192 ?_
                          refine k_iast hx hb hK hP hD hS 2 rfl (by omega) (by omega) dX0_cut_193 (fun H locs hP hD hS => ?_)
                          have hP : va_P g.1 vwCl [(h0, .inr (0, [.int (nI ki), .int (nI kt), .int (nI kf), .int (nI st.1), .int (fr), .ref (h5), .ref (h6), .ref (h7)])), (h5, aJ g 720 q.2.1), (h6, aI g 144 (upd q.2.2 r ((q.2.2 r) ||| (bdW w)))), (h7, aJ g 144 s1), (r0, .inr (2, [.int (nI ri), .int (nI ro), .ref (rn), .ref (rp)])), (rn, aI g 48 nu), (rp, aZ g 12 pt)] H := hP
                          have hD : va_D A [(h0, .inr (0, [.int (nI ki), .int (nI kt), .int (nI kf), .int (nI st.1), .int (fr), .ref (h5), .ref (h6), .ref (h7)])), (h5, aJ g 720 q.2.1), (h6, aI g 144 (upd q.2.2 r ((q.2.2 r) ||| (bdW w)))), (h7, aJ g 144 s1), (r0, .inr (2, [.int (nI ri), .int (nI ro), .ref (rn), .ref (rp)])), (rn, aI g 48 nu), (rp, aZ g 12 pt)] := hD
                          exact lp_194 (upd q.2.2 r ((q.2.2 r) ||| (bdW w))) hct hns (by omega) _ _ hP hD hS ls (lv_sub hl [0, 1, 2, 3, 4, 5, 6] rfl)
                    · skip
                      have c_7 := mt (nI_leI (by omega) (by omega)).mpr c_7
                      have hlt : r < km := by omega
                      refine lv_aload_n hx hb dX0_cut_152 rfl (lv_at hl 0 rfl) ?_
                      refine k_get hx hb hts hown hK hP iw_X0_cut_X0 rfl 0 7 fm_X0_cut_19 (by decide) rfl rfl dX0_cut_153 ?_
                      refine lv_iload hx hb dX0_cut_156 (lv_at hl 6 rfl) ?_
                      refine k_lald hx hb hK hP 3 rfl (by omega) (by omega) dX0_cut_158 ?_
                      refine lv_lconst (v := 0) hx hb dX0_cut_159 (by decide) ?_
                      refine W.lcmp hx hb dX0_cut_160 ?_
                      refine lv_if_lt (tgt := 205) hx hb dX0_cut_161 (by decide) (fun c_10 => ?_) (fun c_10 => ?_)
                      · skip
                        have c_10 := (lc_lt _ _).mp c_10
                        have hcs : cmS kt s1 (bdW w) km r q = q := if_pos ⟨hlt, c_10⟩
                        have hx2 : cmL kt s1 (bdW w) km 0 st.1 (0, st.2) = cmL kt s1 (bdW w) km (r + 1) (st.1 - (r + 1)) q := by rw [hx9, show st.1 - r = (st.1 - (r + 1)) + 1 by omega, cmL, hcs]
                        refine lv_iinc (v := nI (r + 1)) (lv' := [(6, .int (nI (r + 1))), (0, .ref (h0)), (1, .ref (r0)), (2, .int (nI w)), (3, .int (bdW w)), (4, .int (nI km)), (5, .int (nI q.1))]) hx hb dX0_cut_205 hl (k := 6) rfl (nI_inc1 r) (by decide) rfl (fun ls hl => ?_)
                        refine lv_goto (tgt := 136) hx hb dX0_cut_208 (by decide) ?_
                        exact ih_136 (r + 1) q (by omega) (by omega) (by omega) hx2 _ _ hP hD hS ls (lv_sub hl [1, 2, 3, 4, 5, 6, 0] rfl)
                      · skip
                        have c_10 := mt (lc_lt _ _).mpr c_10
                        have hns : ¬ (r < km ∧ s1 r < 0) := fun z => c_10 z.2
                        refine lv_iload hx hb dX0_cut_164 (lv_at hl 6 rfl) ?_
                        refine lv_iload hx hb dX0_cut_166 (lv_at hl 4 rfl) ?_
                        refine lv_icmp_ge (tgt := 194) hx hb dX0_cut_168 (by decide) (fun c_11 => ?_) (fun c_11 => ?_)
                        · skip
                          have c_11 := (nI_leI (by omega) (by omega)).mp c_11
                          have hct : cmT s1 (bdW w) km r q.2.2 = q.2.2 := if_neg (fun z => by omega)
                          exact lp_194 q.2.2 hct hns (by omega) _ _ hP hD hS ls (lv_sub hl [0, 1, 2, 3, 4, 5, 6] rfl)
                        · skip
                          have c_11 := mt (nI_leI (by omega) (by omega)).mpr c_11
                          have hlt : r < km := by omega
                          refine lv_aload_n hx hb dX0_cut_171 rfl (lv_at hl 0 rfl) ?_
                          refine k_get hx hb hts hown hK hP iw_X0_cut_X0 rfl 0 7 fm_X0_cut_19 (by decide) rfl rfl dX0_cut_172 ?_
                          refine lv_iload hx hb dX0_cut_175 (lv_at hl 6 rfl) ?_
                          refine k_lald hx hb hK hP 3 rfl (by omega) (by omega) dX0_cut_177 ?_
                          refine lv_lconst (v := 0) hx hb dX0_cut_178 (by decide) ?_
                          refine W.lcmp hx hb dX0_cut_179 ?_
                          refine lv_if_ne (tgt := 194) hx hb dX0_cut_180 (by decide) (fun c_12 => ?_) (fun c_12 => ?_)
                          · skip
                            have c_12 := mt (lc_eq _ _).mpr c_12
                            have hct : cmT s1 (bdW w) km r q.2.2 = q.2.2 := if_neg (fun z => c_12 z.2)
                            exact lp_194 q.2.2 hct hns (by omega) _ _ hP hD hS ls (lv_sub hl [0, 1, 2, 3, 4, 5, 6] rfl)
                          · skip
                            have c_12 := (lc_eq _ _).mp c_12
                            have hct : cmT s1 (bdW w) km r q.2.2 = upd q.2.2 r (q.2.2 r ||| bdW w) := if_pos ⟨hlt, c_12⟩
                            refine lv_aload_n hx hb dX0_cut_183 rfl (lv_at hl 0 rfl) ?_
                            refine k_get hx hb hts hown hK hP iw_X0_cut_X0 rfl 0 6 fm_X0_cut_15 (by decide) rfl rfl dX0_cut_184 ?_
                            refine lv_iload hx hb dX0_cut_187 (lv_at hl 6 rfl) ?_
                            refine lv_dup2_11 hx hb dX0_cut_189 rfl rfl ?_
                            refine k_iald hx hb hK hP 2 rfl (by omega) (by omega) dX0_cut_190 ?_
                            refine lv_iload_n hx hb dX0_cut_191 rfl (lv_at hl 3 rfl) ?_
                            refine lv_ior hx hb dX0_cut_192 ?_
                            refine k_iast hx hb hK hP hD hS 2 rfl (by omega) (by omega) dX0_cut_193 (fun H locs hP hD hS => ?_)
                            have hP : va_P g.1 vwCl [(h0, .inr (0, [.int (nI ki), .int (nI kt), .int (nI kf), .int (nI st.1), .int (fr), .ref (h5), .ref (h6), .ref (h7)])), (h5, aJ g 720 q.2.1), (h6, aI g 144 (upd q.2.2 r ((q.2.2 r) ||| (bdW w)))), (h7, aJ g 144 s1), (r0, .inr (2, [.int (nI ri), .int (nI ro), .ref (rn), .ref (rp)])), (rn, aI g 48 nu), (rp, aZ g 12 pt)] H := hP
                            have hD : va_D A [(h0, .inr (0, [.int (nI ki), .int (nI kt), .int (nI kf), .int (nI st.1), .int (fr), .ref (h5), .ref (h6), .ref (h7)])), (h5, aJ g 720 q.2.1), (h6, aI g 144 (upd q.2.2 r ((q.2.2 r) ||| (bdW w)))), (h7, aJ g 144 s1), (r0, .inr (2, [.int (nI ri), .int (nI ro), .ref (rn), .ref (rp)])), (rn, aI g 48 nu), (rp, aZ g 12 pt)] := hD
                            exact lp_194 (upd q.2.2 r ((q.2.2 r) ||| (bdW w))) hct hns (by omega) _ _ hP hD hS ls (lv_sub hl [0, 1, 2, 3, 4, 5, 6] rfl)
              exact lp_136 (st.1 - 0 + 1) 0 (((0, st.2) : CS)) (by omega) (by omega) (Nat.zero_le _) rfl _ _ hP hD hS ls (lv_sub hl [2, 3, 4, 5, 6, 1, 0] rfl)
            · skip
              have c_2 := mt (nI_leI (by omega) (by omega)).mpr c_2
              refine lv_iconst (v := nI 0) hx hb dX0_cut_62 (by decide) ?_
              refine lv_istore (lv' := [(6, .int (nI 0)), (0, .ref (h0)), (1, .ref (r0)), (2, .int (nI w)), (3, .int (bdW w)), (4, .int (nI km)), (5, .int (nI v))]) hx hb dX0_cut_63 hl (by decide) rfl (fun ls hl => ?_)
              have lp_65 : ∀ (n : Nat) (i : Nat) (st : CS), km - i < n → i ≤ km → km ≤ st.1 ∧ st.1 ≤ 144 → (0 < s1 v ∧ ctO kt kf s1 (bdW w) km 0 km (km, ray, tg) = ctO kt kf s1 (bdW w) km (v + 1) (km - (v + 1)) (ctI kt kf s1 (bdW w) km v i (km - i) st)) ∨ (¬ 0 < s1 v ∧ ctO kt kf s1 (bdW w) km 0 km (km, ray, tg) = ctO kt kf s1 (bdW w) km (v + 1) (km - (v + 1)) st) → ∀ (H : Heap) (locs : List Loc), va_P g.1 vwCl [(h0, .inr (0, [.int (nI ki), .int (nI kt), .int (nI kf), .int (nI st.1), .int (fr), .ref (h5), .ref (h6), .ref (h7)])), (h5, aJ g 720 st.2.1), (h6, aI g 144 st.2.2), (h7, aJ g 144 s1), (r0, .inr (2, [.int (nI ri), .int (nI ro), .ref (rn), .ref (rp)])), (rn, aI g 48 nu), (rp, aZ g 12 pt)] H → va_D A [(h0, .inr (0, [.int (nI ki), .int (nI kt), .int (nI kf), .int (nI st.1), .int (fr), .ref (h5), .ref (h6), .ref (h7)])), (h5, aJ g 720 st.2.1), (h6, aI g 144 st.2.2), (h7, aJ g 144 s1), (r0, .inr (2, [.int (nI ri), .int (nI ro), .ref (rn), .ref (rp)])), (rn, aI g 48 nu), (rp, aZ g 12 pt)] → va_S A s.heap H locs → ∀ ls : Array Slot, lv_has ls 7 [(0, .ref (h0)), (1, .ref (r0)), (2, .int (nI w)), (3, .int (bdW w)), (4, .int (nI km)), (5, .int (nI v)), (6, .int (nI i))] → W p l e { frames := 2, cells := 0, slots := 0, locals := 58 } s m args below meth c H locs 0 0 Q (F0 m 65 ls []) := by
                intro n
                induction n with
                | zero =>
                  intro i st hms
                  omega
                | succ n ih_65 =>
                  intro i st hms_65 hi0 hst hw1 H locs hP hD hS ls hl
                  refine lv_aload_n hx hb dX0_cut_65 rfl (lv_at hl 0 rfl) ?_
                  refine k_get hx hb hts hown hK hP iw_X0_cut_X0 rfl 0 7 fm_X0_cut_19 (by decide) rfl rfl dX0_cut_66 ?_
                  refine lv_iload hx hb dX0_cut_69 (lv_at hl 5 rfl) ?_
                  refine k_lald hx hb hK hP 3 rfl (by omega) (by omega) dX0_cut_71 ?_
                  refine lv_lconst (v := 0) hx hb dX0_cut_72 (by decide) ?_
                  refine W.lcmp hx hb dX0_cut_73 ?_
                  refine lv_if_le (tgt := 124) hx hb dX0_cut_74 (by decide) (fun c_13 => ?_) (fun c_13 => ?_)
                  · skip
                    have c_13 := (lc_le _ _).mp c_13
                    have hv2 : ctO kt kf s1 (bdW w) km 0 km (km, ray, tg) = ctO kt kf s1 (bdW w) km (v + 1) (km - (v + 1)) st := hw1.elim (fun q => absurd q.1 (by rw [i64_lt]; rw [i64_le] at c_13; omega)) (fun q => q.2)
                    refine lv_iinc (v := nI (v + 1)) (lv' := [(5, .int (nI (v + 1))), (0, .ref (h0)), (1, .ref (r0)), (2, .int (nI w)), (3, .int (bdW w)), (4, .int (nI km)), (6, .int (nI i))]) hx hb dX0_cut_124 hl (k := 5) rfl (nI_inc1 v) (by decide) rfl (fun ls hl => ?_)
                    refine lv_goto (tgt := 55) hx hb dX0_cut_127 (by decide) ?_
                    exact ih_55 (v + 1) st (by omega) (by omega) hst hv2 _ _ hP hD hS ls (lv_sub hl [1, 2, 3, 4, 5, 0] rfl)
                  · skip
                    have c_13 := mt (lc_le _ _).mpr c_13
                    have hpos : 0 < s1 v := by rw [i64_lt]; rw [i64_le] at c_13; omega
                    have hw3 := hw1.elim (fun q => q.2) (fun q => absurd hpos q.1)
                    refine lv_iload hx hb dX0_cut_77 (lv_at hl 6 rfl) ?_
                    refine lv_iload hx hb dX0_cut_79 (lv_at hl 4 rfl) ?_
                    refine lv_icmp_ge (tgt := 124) hx hb dX0_cut_81 (by decide) (fun c_14 => ?_) (fun c_14 => ?_)
                    · skip
                      have c_14 := (nI_leI (by omega) (by omega)).mp c_14
                      have hv2 : ctO kt kf s1 (bdW w) km 0 km (km, ray, tg) = ctO kt kf s1 (bdW w) km (v + 1) (km - (v + 1)) st := by rw [hw3, show km - i = 0 by omega]; rfl
                      refine lv_iinc (v := nI (v + 1)) (lv' := [(5, .int (nI (v + 1))), (0, .ref (h0)), (1, .ref (r0)), (2, .int (nI w)), (3, .int (bdW w)), (4, .int (nI km)), (6, .int (nI i))]) hx hb dX0_cut_124 hl (k := 5) rfl (nI_inc1 v) (by decide) rfl (fun ls hl => ?_)
                      refine lv_goto (tgt := 55) hx hb dX0_cut_127 (by decide) ?_
                      exact ih_55 (v + 1) st (by omega) (by omega) hst hv2 _ _ hP hD hS ls (lv_sub hl [1, 2, 3, 4, 5, 0] rfl)
                    · skip
                      have c_14 := mt (nI_leI (by omega) (by omega)).mpr c_14
                      refine lv_aload_n hx hb dX0_cut_84 rfl (lv_at hl 0 rfl) ?_
                      refine k_get hx hb hts hown hK hP iw_X0_cut_X0 rfl 0 7 fm_X0_cut_19 (by decide) rfl rfl dX0_cut_85 ?_
                      refine lv_iload hx hb dX0_cut_88 (lv_at hl 6 rfl) ?_
                      refine k_lald hx hb hK hP 3 rfl (by omega) (by omega) dX0_cut_90 ?_
                      refine lv_lconst (v := 0) hx hb dX0_cut_91 (by decide) ?_
                      refine W.lcmp hx hb dX0_cut_92 ?_
                      refine lv_if_ge (tgt := 118) hx hb dX0_cut_93 (by decide) (fun c_15 => ?_) (fun c_15 => ?_)
                      · skip
                        have c_15 := (lc_ge _ _).mp c_15
                        have hw2 : ctO kt kf s1 (bdW w) km 0 km (km, ray, tg) = ctO kt kf s1 (bdW w) km (v + 1) (km - (v + 1)) (ctI kt kf s1 (bdW w) km v (i + 1) (km - (i + 1)) st) := by rw [hw3, show km - i = (km - (i + 1)) + 1 by omega, ctI, if_neg (fun q => by have q := q.1; rw [i64_lt] at q; rw [i64_le] at c_15; omega)]
                        refine lv_iinc (v := nI (i + 1)) (lv' := [(6, .int (nI (i + 1))), (0, .ref (h0)), (1, .ref (r0)), (2, .int (nI w)), (3, .int (bdW w)), (4, .int (nI km)), (5, .int (nI v))]) hx hb dX0_cut_118 hl (k := 6) rfl (nI_inc1 i) (by decide) rfl (fun ls hl => ?_)
                        refine lv_goto (tgt := 65) hx hb dX0_cut_121 (by decide) ?_
                        exact ih_65 (i + 1) st (by omega) (by omega) hst (Or.inl ⟨hpos, hw2⟩) _ _ hP hD hS ls (lv_sub hl [1, 2, 3, 4, 5, 6, 0] rfl)
                      · skip
                        have c_15 := mt (lc_ge _ _).mpr c_15
                        have hneg : s1 i < 0 := by rw [i64_lt]; rw [i64_le] at c_15; omega
                        refine lv_aload_n hx hb dX0_cut_96 rfl (lv_at hl 0 rfl) ?_
                        refine lv_iload hx hb dX0_cut_97 (lv_at hl 5 rfl) ?_
                        refine lv_iload hx hb dX0_cut_99 (lv_at hl 6 rfl) ?_
                        refine lv_iload hx hb dX0_cut_101 (lv_at hl 4 rfl) ?_
                        refine go_i (wc := [(h0, .inr (0, [.int (nI ki), .int (nI kt), .int (nI kf), .int (nI st.1), .int (fr), .ref (h5), .ref (h6), .ref (h7)])), (h5, aJ g 720 st.2.1), (h6, aI g 144 st.2.2), (h7, aJ g 144 s1)]) (wr := [(r0, .inr (2, [.int (nI ri), .int (nI ro), .ref (rn), .ref (rp)])), (rn, aI g 48 nu), (rp, aZ g 12 pt)]) hP hD hS hA [0, 1, 2, 3] [4, 5, 6] rfl rfl rfl rfl (by decide) (fun hPc hDc => rn_V (As := [.int (nI v), .int (nI i), .int (nI km)]) (rest := []) ⟨hx, hb, hml, hown, hts⟩ ((c_X0_areNeighbours l g h0 h5 h6 h7 ki kt kf st.1 fr st.2.1 st.2.2 s1 v i km (by omega) (by omega) (by omega) (by omega)) _) (cwV 3 hts gX0_cut_X0_areNeighbours rfl rfl rfl (by decide +kernel) ⟨Nat.le_of_ble_eq_true rfl, Nat.le_of_ble_eq_true rfl⟩) hK hN hPc hDc 0 rfl rfl rfl rfl hl.1 (Nat.le_of_ble_eq_true rfl) dX0_cut_103 ⟨Nat.le_of_ble_eq_true rfl, Nat.le_of_ble_eq_true rfl⟩) ?_
                        intro r_16 u_17 H locs h_18 hP hD hS
                        have hP : va_P g.1 vwCl [(h0, .inr (0, [.int (nI ki), .int (nI kt), .int (nI kf), .int (nI st.1), .int (fr), .ref (h5), .ref (h6), .ref (h7)])), (h5, aJ g 720 st.2.1), (h6, aI g 144 st.2.2), (h7, aJ g 144 s1), (r0, .inr (2, [.int (nI ri), .int (nI ro), .ref (rn), .ref (rp)])), (rn, aI g 48 nu), (rp, aZ g 12 pt)] H := hP.sub [3, 4, 5, 6, 0, 1, 2] rfl
                        have hD : va_D A [(h0, .inr (0, [.int (nI ki), .int (nI kt), .int (nI kf), .int (nI st.1), .int (fr), .ref (h5), .ref (h6), .ref (h7)])), (h5, aJ g 720 st.2.1), (h6, aI g 144 st.2.2), (h7, aJ g 144 s1), (r0, .inr (2, [.int (nI ri), .int (nI ro), .ref (rn), .ref (rp)])), (rn, aI g 48 nu), (rp, aZ g 12 pt)] := hD.sub [3, 4, 5, 6, 0, 1, 2] rfl rfl
                        have h_18 : r_16 = bI (nbB st.2.2 kf v i km) := h_18
                        subst h_18
                        refine lv_if_eq (tgt := 118) hx hb dX0_cut_106 (by decide) (fun c_19 => ?_) (fun c_19 => ?_)
                        · skip
                          have hw2 : ctO kt kf s1 (bdW w) km 0 km (km, ray, tg) = ctO kt kf s1 (bdW w) km (v + 1) (km - (v + 1)) (ctI kt kf s1 (bdW w) km v (i + 1) (km - (i + 1)) st) := by rw [hw3, show km - i = (km - (i + 1)) + 1 by omega, ctI, if_neg (fun q => absurd (bI_eq0.mp c_19) (by rw [q.2]; decide))]
                          refine lv_iinc (v := nI (i + 1)) (lv' := [(6, .int (nI (i + 1))), (0, .ref (h0)), (1, .ref (r0)), (2, .int (nI w)), (3, .int (bdW w)), (4, .int (nI km)), (5, .int (nI v))]) hx hb dX0_cut_118 hl (k := 6) rfl (nI_inc1 i) (by decide) rfl (fun ls hl => ?_)
                          refine lv_goto (tgt := 65) hx hb dX0_cut_121 (by decide) ?_
                          exact ih_65 (i + 1) st (by omega) (by omega) hst (Or.inl ⟨hpos, hw2⟩) _ _ hP hD hS ls (lv_sub hl [1, 2, 3, 4, 5, 6, 0] rfl)
                        · skip
                          have hw2 : ctO kt kf s1 (bdW w) km 0 km (km, ray, tg) = ctO kt kf s1 (bdW w) km (v + 1) (km - (v + 1)) (ctI kt kf s1 (bdW w) km v (i + 1) (km - (i + 1)) (jnS kt s1 (bdW w) v i st)) := by rw [hw3, show km - i = (km - (i + 1)) + 1 by omega, ctI, if_pos ⟨hneg, bI_ne0.mp c_19⟩]
                          have hst2 : km ≤ (jnS kt s1 (bdW w) v i st).1 ∧ (jnS kt s1 (bdW w) v i st).1 ≤ 144 := ⟨Nat.le_trans hst.1 (jnS_le hst.2).2, (jnS_le hst.2).1⟩
                          refine lv_aload_n hx hb dX0_cut_109 rfl (lv_at hl 0 rfl) ?_
                          refine lv_iload hx hb dX0_cut_110 (lv_at hl 5 rfl) ?_
                          refine lv_iload hx hb dX0_cut_112 (lv_at hl 6 rfl) ?_
                          refine lv_iload_n hx hb dX0_cut_114 rfl (lv_at hl 3 rfl) ?_
                          refine go_v (wc := [(h0, .inr (0, [.int (nI ki), .int (nI kt), .int (nI kf), .int (nI st.1), .int (fr), .ref (h5), .ref (h6), .ref (h7)])), (h5, aJ g 720 st.2.1), (h6, aI g 144 st.2.2), (h7, aJ g 144 s1)]) (wr := [(r0, .inr (2, [.int (nI ri), .int (nI ro), .ref (rn), .ref (rp)])), (rn, aI g 48 nu), (rp, aZ g 12 pt)]) hP hD hS hA [0, 1, 2, 3] [4, 5, 6] rfl rfl rfl rfl (by decide) (fun hPc hDc => rn_V (As := [.int (nI v), .int (nI i), .int (bdW w)]) (rest := []) ⟨hx, hb, hml, hown, hts⟩ ((c_X0_join l g h0 h5 h6 h7 ki kt kf st.1 fr st.2.1 st.2.2 s1 v i (bdW w) (by omega) (by omega) (by omega) (by omega)) _) (cwV 3 hts gX0_cut_X0_join rfl rfl rfl (by decide +kernel) ⟨Nat.le_of_ble_eq_true rfl, Nat.le_of_ble_eq_true rfl⟩) hK hN hPc hDc 0 rfl rfl rfl rfl hl.1 (Nat.le_of_ble_eq_true rfl) dX0_cut_115 ⟨Nat.le_of_ble_eq_true rfl, Nat.le_of_ble_eq_true rfl⟩) ?_
                          intro u_21 H locs h_22 hP hD hS
                          have hP : va_P g.1 vwCl [(h0, .inr (0, [.int (nI ki), .int (nI kt), .int (nI kf), .int (nI ((jnS kt s1 (bdW w) v i (st.1, st.2.1, st.2.2)).1)), .int (fr), .ref (h5), .ref (h6), .ref (h7)])), (h5, aJ g 720 ((jnS kt s1 (bdW w) v i (st.1, st.2.1, st.2.2)).2.1)), (h6, aI g 144 ((jnS kt s1 (bdW w) v i (st.1, st.2.1, st.2.2)).2.2)), (h7, aJ g 144 s1), (r0, .inr (2, [.int (nI ri), .int (nI ro), .ref (rn), .ref (rp)])), (rn, aI g 48 nu), (rp, aZ g 12 pt)] H := hP.sub [3, 4, 5, 6, 0, 1, 2] rfl
                          have hD : va_D A [(h0, .inr (0, [.int (nI ki), .int (nI kt), .int (nI kf), .int (nI ((jnS kt s1 (bdW w) v i (st.1, st.2.1, st.2.2)).1)), .int (fr), .ref (h5), .ref (h6), .ref (h7)])), (h5, aJ g 720 ((jnS kt s1 (bdW w) v i (st.1, st.2.1, st.2.2)).2.1)), (h6, aI g 144 ((jnS kt s1 (bdW w) v i (st.1, st.2.1, st.2.2)).2.2)), (h7, aJ g 144 s1), (r0, .inr (2, [.int (nI ri), .int (nI ro), .ref (rn), .ref (rp)])), (rn, aI g 48 nu), (rp, aZ g 12 pt)] := hD.sub [3, 4, 5, 6, 0, 1, 2] rfl rfl
                          refine lv_iinc (v := nI (i + 1)) (lv' := [(6, .int (nI (i + 1))), (0, .ref (h0)), (1, .ref (r0)), (2, .int (nI w)), (3, .int (bdW w)), (4, .int (nI km)), (5, .int (nI v))]) hx hb dX0_cut_118 hl (k := 6) rfl (nI_inc1 i) (by decide) rfl (fun ls hl => ?_)
                          refine lv_goto (tgt := 65) hx hb dX0_cut_121 (by decide) ?_
                          exact ih_65 (i + 1) ((jnS kt s1 (bdW w) v i st)) (by omega) (by omega) hst2 (Or.inl ⟨hpos, hw2⟩) _ _ hP hD hS ls (lv_sub hl [1, 2, 3, 4, 5, 6, 0] rfl)
              have hw0 : (0 < s1 v ∧ ctO kt kf s1 (bdW w) km 0 km (km, ray, tg) = ctO kt kf s1 (bdW w) km (v + 1) (km - (v + 1)) (ctI kt kf s1 (bdW w) km v 0 (km - 0) st)) ∨ (¬ 0 < s1 v ∧ ctO kt kf s1 (bdW w) km 0 km (km, ray, tg) = ctO kt kf s1 (bdW w) km (v + 1) (km - (v + 1)) st) := by
                rw [show km - v = (km - (v + 1)) + 1 by omega, ctO] at hv
                by_cases h9 : 0 < s1 v
                · rw [if_pos h9] at hv; exact Or.inl ⟨h9, hv⟩
                · rw [if_neg h9] at hv; exact Or.inr ⟨h9, hv⟩
              exact lp_65 (km - 0 + 1) 0 st (by omega) (by omega) hst hw0 _ _ hP hD hS ls (lv_sub hl [1, 2, 3, 4, 5, 6, 0] rfl)
        exact lp_55 (km - 0 + 1) 0 (((km, ray, tg) : CS)) (by omega) (by omega) (⟨Nat.le_refl _, hm⟩) rfl _ _ hP hD hS ls (lv_sub hl [1, 2, 3, 4, 5, 0] rfl)
      · skip
        have c_1 := mt (nI_leI (by omega) (by omega)).mpr c_1
        refine lv_aload_n hx hb dX0_cut_22 rfl (lv_at hl 0 rfl) ?_
        refine k_get hx hb hts hown hK hP iw_X0_cut_X0 rfl 0 7 fm_X0_cut_19 (by decide) rfl rfl dX0_cut_23 ?_
        refine lv_iload hx hb dX0_cut_26 (lv_at hl 5 rfl) ?_
        refine lv_aload_n hx hb dX0_cut_28 rfl (lv_at hl 0 rfl) ?_
        refine lv_iload hx hb dX0_cut_29 (lv_at hl 5 rfl) ?_
        refine lv_aload_n hx hb dX0_cut_31 rfl (lv_at hl 1 rfl) ?_
        refine lv_iload_n hx hb dX0_cut_32 rfl (lv_at hl 2 rfl) ?_
        refine go_l (wc := [(h0, .inr (0, [.int (nI ki), .int (nI kt), .int (nI kf), .int (nI km), .int (fr), .ref (h5), .ref (h6), .ref (h7)])), (h5, aJ g 720 ray), (h6, aI g 144 tg), (h7, aJ g 144 (pL sl 0 (slk ray nu w ki kt) k)), (r0, .inr (2, [.int (nI ri), .int (nI ro), .ref (rn), .ref (rp)])), (rn, aI g 48 nu), (rp, aZ g 12 pt)]) (wr := []) hP hD hS hA [0, 1, 2, 3, 4, 5, 6] [] rfl rfl rfl rfl (by decide) (fun hPc hDc => rn_V (As := [.int (nI k), .ref (r0), .int (nI w)]) (rest := [.int (nI k), .ref (h7)]) ⟨hx, hb, hml, hown, hts⟩ ((c_X0_insWeighed l g h0 h5 h6 h7 ki kt kf km fr ray tg (pL sl 0 (slk ray nu w ki kt) k) r0 rn rp ri ro nu pt k w (by omega) (by omega) (by omega)) _) (cwV 3 hts gX0_cut_X0_insWeighed rfl rfl rfl (by decide +kernel) ⟨Nat.le_of_ble_eq_true rfl, Nat.le_of_ble_eq_true rfl⟩) hK hN hPc hDc 0 rfl rfl rfl rfl hl.1 (Nat.le_of_ble_eq_true rfl) dX0_cut_33 ⟨Nat.le_of_ble_eq_true rfl, Nat.le_of_ble_eq_true rfl⟩) ?_
        intro r_23 u_24 H locs h_25 hP hD hS
        have hP : va_P g.1 vwCl [(h0, .inr (0, [.int (nI ki), .int (nI kt), .int (nI kf), .int (nI km), .int (fr), .ref (h5), .ref (h6), .ref (h7)])), (h5, aJ g 720 ray), (h6, aI g 144 tg), (h7, aJ g 144 ((pL sl 0 (slk ray nu w ki kt) k))), (r0, .inr (2, [.int (nI ri), .int (nI ro), .ref (rn), .ref (rp)])), (rn, aI g 48 nu), (rp, aZ g 12 pt)] H := hP.sub [0, 1, 2, 3, 4, 5, 6] rfl
        have hD : va_D A [(h0, .inr (0, [.int (nI ki), .int (nI kt), .int (nI kf), .int (nI km), .int (fr), .ref (h5), .ref (h6), .ref (h7)])), (h5, aJ g 720 ray), (h6, aI g 144 tg), (h7, aJ g 144 ((pL sl 0 (slk ray nu w ki kt) k))), (r0, .inr (2, [.int (nI ri), .int (nI ro), .ref (rn), .ref (rp)])), (rn, aI g 48 nu), (rp, aZ g 12 pt)] := hD.sub [0, 1, 2, 3, 4, 5, 6] rfl rfl
        have h_25 : r_23 = insW ray nu k w ki := h_25
        subst h_25
        refine lv_aload_n hx hb dX0_cut_36 rfl (lv_at hl 0 rfl) ?_
        refine lv_iload hx hb dX0_cut_37 (lv_at hl 5 rfl) ?_
        refine lv_aload_n hx hb dX0_cut_39 rfl (lv_at hl 1 rfl) ?_
        refine lv_iload_n hx hb dX0_cut_40 rfl (lv_at hl 2 rfl) ?_
        refine go_l (wc := [(h0, .inr (0, [.int (nI ki), .int (nI kt), .int (nI kf), .int (nI km), .int (fr), .ref (h5), .ref (h6), .ref (h7)])), (h5, aJ g 720 ray), (h6, aI g 144 tg), (h7, aJ g 144 ((pL sl 0 (slk ray nu w ki kt) k))), (r0, .inr (2, [.int (nI ri), .int (nI ro), .ref (rn), .ref (rp)])), (rn, aI g 48 nu), (rp, aZ g 12 pt)]) (wr := []) hP hD hS hA [0, 1, 2, 3, 4, 5, 6] [] rfl rfl rfl rfl (by decide) (fun hPc hDc => rn_V (As := [.int (nI k), .ref (r0), .int (nI w)]) (rest := [.long (insW ray nu k w ki), .int (nI k), .ref (h7)]) ⟨hx, hb, hml, hown, hts⟩ ((c_X0_outsWeighed l g h0 h5 h6 h7 ki kt kf km fr ray tg ((pL sl 0 (slk ray nu w ki kt) k)) r0 rn rp ri ro nu pt k w (by omega) (by omega) (by omega) (by omega)) _) (cwV 3 hts gX0_cut_X0_outsWeighed rfl rfl rfl (by decide +kernel) ⟨Nat.le_of_ble_eq_true rfl, Nat.le_of_ble_eq_true rfl⟩) hK hN hPc hDc 0 rfl rfl rfl rfl hl.1 (Nat.le_of_ble_eq_true rfl) dX0_cut_41 ⟨Nat.le_of_ble_eq_true rfl, Nat.le_of_ble_eq_true rfl⟩) ?_
        intro r_26 u_27 H locs h_28 hP hD hS
        have hP : va_P g.1 vwCl [(h0, .inr (0, [.int (nI ki), .int (nI kt), .int (nI kf), .int (nI km), .int (fr), .ref (h5), .ref (h6), .ref (h7)])), (h5, aJ g 720 ray), (h6, aI g 144 tg), (h7, aJ g 144 (((pL sl 0 (slk ray nu w ki kt) k)))), (r0, .inr (2, [.int (nI ri), .int (nI ro), .ref (rn), .ref (rp)])), (rn, aI g 48 nu), (rp, aZ g 12 pt)] H := hP.sub [0, 1, 2, 3, 4, 5, 6] rfl
        have hD : va_D A [(h0, .inr (0, [.int (nI ki), .int (nI kt), .int (nI kf), .int (nI km), .int (fr), .ref (h5), .ref (h6), .ref (h7)])), (h5, aJ g 720 ray), (h6, aI g 144 tg), (h7, aJ g 144 (((pL sl 0 (slk ray nu w ki kt) k)))), (r0, .inr (2, [.int (nI ri), .int (nI ro), .ref (rn), .ref (rp)])), (rn, aI g 48 nu), (rp, aZ g 12 pt)] := hD.sub [0, 1, 2, 3, 4, 5, 6] rfl rfl
        have h_28 : r_26 = outsW ray nu k w kt ki (kt - ki) := h_28
        subst h_28
        refine lv_lsub hx hb dX0_cut_44 ?_
        refine k_el (y := slk ray nu w ki kt k) (rfl) ?_
        refine k_last hx hb hK hP hD hS 3 rfl (by omega) (by omega) dX0_cut_45 (fun H locs hP hD hS => ?_)
        have hP : va_P g.1 vwCl [(h0, .inr (0, [.int (nI ki), .int (nI kt), .int (nI kf), .int (nI km), .int (fr), .ref (h5), .ref (h6), .ref (h7)])), (h5, aJ g 720 ray), (h6, aI g 144 tg), (h7, aJ g 144 (vp_updL (((pL sl 0 (slk ray nu w ki kt) k))) k (slk ray nu w ki kt k))), (r0, .inr (2, [.int (nI ri), .int (nI ro), .ref (rn), .ref (rp)])), (rn, aI g 48 nu), (rp, aZ g 12 pt)] H := hP
        have hD : va_D A [(h0, .inr (0, [.int (nI ki), .int (nI kt), .int (nI kf), .int (nI km), .int (fr), .ref (h5), .ref (h6), .ref (h7)])), (h5, aJ g 720 ray), (h6, aI g 144 tg), (h7, aJ g 144 (vp_updL (((pL sl 0 (slk ray nu w ki kt) k))) k (slk ray nu w ki kt k))), (r0, .inr (2, [.int (nI ri), .int (nI ro), .ref (rn), .ref (rp)])), (rn, aI g 48 nu), (rp, aZ g 12 pt)] := hD
        have e_29 : vp_updL (((pL sl 0 (slk ray nu w ki kt) k))) k (slk ray nu w ki kt k) = pL sl 0 (slk ray nu w ki kt) (k + 1) := by rw [← pL_succ sl 0 (slk ray nu w ki kt) k rfl, Nat.zero_add]
        rw [e_29] at hP hD
        refine lv_iinc (v := nI (k + 1)) (lv' := [(5, .int (nI (k + 1))), (0, .ref (h0)), (1, .ref (r0)), (2, .int (nI w)), (3, .int (bdW w)), (4, .int (nI km))]) hx hb dX0_cut_46 hl (k := 5) rfl (nI_inc1 k) (by decide) rfl (fun ls hl => ?_)
        refine lv_goto (tgt := 15) hx hb dX0_cut_49 (by decide) ?_
        exact ih_15 (k + 1) (by omega) (by omega) _ _ hP hD hS ls (lv_sub hl [1, 2, 3, 4, 5, 0] rfl)
  exact lp_15 (km - 0 + 1) 0 (by omega) (by omega) _ _ (by rw [pL_0]; exact hP) (by rw [pL_0]; exact hD) hS ls (lv_sub hl [3, 4, 5, 2, 1, 0] rfl)
