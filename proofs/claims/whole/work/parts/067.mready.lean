theorem rdP_1 {x u : MS} {v r : Int32} (h : rdP x u v r) (hr : ¬ r = 0) : rdC x v ∧ mOK (plN x) (plA x) (gMi x) (gMo x) (gMw x) (wN v) (gNs u) (gSd u) := by
  rcases h with ⟨h1, -, h2⟩ | ⟨-, h2⟩
  · exact ⟨h1, h2⟩
  · exact absurd h2 hr
theorem rdP_0 {x u : MS} {v r : Int32} (h : rdP x u v r) (hr : r = 0) : ¬ rdC x v := by
  rcases h with ⟨-, h1, -⟩ | ⟨h1, -⟩
  · rw [hr] at h1
    exact absurd h1 (by decide)
  · exact h1
def mOKx (x : MS) (v ns : Nat) (sd : Nat → Int64) : Prop := mOK (plN x) (plA x) (gMi x) (gMo x) (gMw x) v ns sd
def msdP (x : MS) (v r : Int32) : Prop := (rdC x v ∧ ∃ ns sd, mOKx x (wN v) ns sd ∧ r = nI ns) ∨ (¬ rdC x v ∧ r = -1)
def lst (t k : Nat) : Nat := if k = t then 4 else k
def msiP (x : MS) (v i k r : Int32) : Prop := (rdC x v ∧ ∃ ns sd, mOKx x (wN v) ns sd ∧ ((inR i ns = true ∧ inR k (gMi x + gMo x + 1) = true ∧ r = (sd (wN i * 5 + lst (gMi x + gMo x) (wN k))).toInt32) ∨ (¬ (inR i ns = true ∧ inR k (gMi x + gMo x + 1) = true) ∧ r = -1))) ∨ (¬ rdC x v ∧ r = -1)
theorem shQ_ok {nu am : Nat → Int32} {ni no mw v w : Nat} {tp bl : Int64} {r : Int32} {ns : Nat} {sd : Nat → Int64} {tp' bl' : Int64} (hA : anB am 0 mw false = true) (h : shQ nu am ni no mw v w tp bl r ns sd tp' bl') : mOK nu am ni no mw v ns sd ∧ r = bI (shL sd nu ni no w 0 ns (0, 1)).1 ∧ tp' = (shL sd nu ni no w 0 ns (0, 1)).2.1 ∧ bl' = (shL sd nu ni no w 0 ns (0, 1)).2.2 := by
  rcases h with h | h
  · rw [hA] at h
    exact absurd h.1 (by decide)
  · exact h.2
/-- the sides, and a share by them -/
def mSq (x : MS) (v w ns : Nat) (sd : Nat → Int64) (tp bl : Int64) : Prop := mOKx x v ns sd ∧ tp = (shL sd (plN x) (gMi x) (gMo x) w 0 ns (0, 1)).2.1 ∧ bl = (shL sd (plN x) (gMi x) (gMo x) w 0 ns (0, 1)).2.2
def mbB (x : MS) (sd : Nat → Int64) (i w : Nat) (tp bl : Int64) : Bool := decide (outsW sd (plN x) i w 4 (gMi x) (gMo x) * bl = tp * insW sd (plN x) i w (gMi x))
def msuP (x : MS) (v w i r : Int32) : Prop := ((isI v (nI 0) (nI 2) = true ∧ asC x v w) ∧ ∃ ns sd tp bl, mSq x (wN v) (wN w) ns sd tp bl ∧ ((inR i ns = false ∧ r = -1) ∨ (inR i ns = true ∧ r = bI (decide (0 < insW sd (plN x) (wN i) (wN w) (gMi x)) && mbB x sd (wN i) (wN w) tp bl)))) ∨ (¬ (isI v (nI 0) (nI 2) = true ∧ asC x v w) ∧ r = -1)
theorem iw_X4_ready_X4 : ∀ w ∈ wsX40, w ∈ wsX4_ready := fun w h => List.mem_cons_of_mem _ (List.mem_append_right _ h)
theorem fm_X4_ready_46 : Cond.fieldLink RX4 46 "EdgeBenchModel" "thrown" "I" ∈ wsX4_ready := List.mem_of_getElem? (i := 1) rfl
theorem cw_X4_ready_144_1_20 {R : Room} {s : State} {args : Array Value} (hts : ∀ w ∈ wsX4_ready, w.before args s = true) (hN : nsW s) (hR : 1 + 1 ≤ R.frames ∧ 8 + (3 + 11) + 20 ≤ R.locals) : CallW R s args RX4 RX4 144 yX4_plain cX4_plain 3 none wsX4_plain { frames := 1, cells := 0, slots := 0, locals := 20 } 0 0 0 := cwV 0 hts gX4_ready_X4_plain rfl rfl rfl ⟨rfl, hdn_X4_plain⟩ hR
theorem fm_X4_ready_49 : Cond.fieldLink RX4 49 "EdgeBenchModel" "works" "I" ∈ wsX4_ready := List.mem_of_getElem? (i := 2) rfl
theorem cw_X4_ready_52_0_0 {R : Room} {s : State} {args : Array Value} (hts : ∀ w ∈ wsX4_ready, w.before args s = true) (hN : nsW s) (hR : 0 + 1 ≤ R.frames ∧ 8 + (3 + 11) + 0 ≤ R.locals) : CallB R s args RX4 52 yX4_isIn cX4_isIn 3 (some .boolean) wsX4_isIn { frames := 0, cells := 0, slots := 0, locals := 0 } 0 0 3 ∧ (Cond.static yX4_isIn).before args s = true := va_cwS 3 hts gX4_ready_X4_isIn rfl rfl rfl hdn_X4_isIn hR
theorem cw_X4_ready_118_11_278 {R : Room} {s : State} {args : Array Value} (hts : ∀ w ∈ wsX4_ready, w.before args s = true) (hN : nsW s) (hR : 11 + 1 ≤ R.frames ∧ 8 + (2 + 11) + 278 ≤ R.locals) : CallW R s args RX4 RX4 118 yX4_allSides cX4_allSides 2 none wsX4_allSides { frames := 11, cells := 0, slots := 0, locals := 278 } 0 0 1 := cwV 1 hts gX4_ready_X4_allSides rfl rfl rfl ⟨rfl, hdn_X4_allSides⟩ hR
theorem fm_X4_ready_23 : Cond.fieldLink RX4 23 "EdgeBenchModel" "there" "[Z" ∈ wsX4_ready := List.mem_of_getElem? (i := 3) rfl
set_option maxHeartbeats 20000000 in
set_option maxRecDepth 100000 in
theorem c_X4_ready (l : Launch) (g : Gt) (md : Nat → Nat) (x : MS) (vw : Int32) (hmb : mBen x) : CI l yX4_ready wsX4_ready { frames := 12, cells := 0, slots := 0, locals := 299 } g [.ref (md 0), .int (vw)] [(md 0, .inr (4, [.int (gXt x), .int (nI (gMi x)), .int (nI (gMo x)), .int (nI (gMw x)), .ref (md 1), .ref (md 2), .ref (md 3), .int (nI (gNi x)), .int (nI (gNo x)), .ref (md 4), .ref (md 5), .ref (md 6), .int (nI (gNs x)), .ref (md 7), .ref (md 8), .int (nI (gNb x)), .int (nI (gWd x)), .ref (md 9), .long (gTp x), .long (gBl x), .long (gWt x), .long (gWb x)])), (md 1, aI g 48 (gLo x)), (md 2, aI g 48 (gHi x)), (md 3, aZ g 12 (gTr x)), (md 4, aI g 48 (gNu x)), (md 5, aZ g 12 (gAm x)), (md 6, aJ g 13000 (gSd x)), (md 7, aJ g 85 (gBd x)), (md 8, aJ g 5 (gWy x)), (md 9, aI g 5 (fun j => nI ((gCh x) j)))] (fun zr (zu : MS) => mKeep x zu ∧ rdP x zu vw zr) (fun (zu : MS) => [(md 0, .inr (4, [.int (gXt zu), .int (nI (gMi zu)), .int (nI (gMo zu)), .int (nI (gMw zu)), .ref (md 1), .ref (md 2), .ref (md 3), .int (nI (gNi zu)), .int (nI (gNo zu)), .ref (md 4), .ref (md 5), .ref (md 6), .int (nI (gNs zu)), .ref (md 7), .ref (md 8), .int (nI (gNb zu)), .int (nI (gWd zu)), .ref (md 9), .long (gTp zu), .long (gBl zu), .long (gWt zu), .long (gWb zu)])), (md 1, aI g 48 (gLo zu)), (md 2, aI g 48 (gHi zu)), (md 3, aZ g 12 (gTr zu)), (md 4, aI g 48 (gNu zu)), (md 5, aZ g 12 (gAm zu)), (md 6, aJ g 13000 (gSd zu)), (md 7, aJ g 85 (gBd zu)), (md 8, aJ g 5 (gWy zu)), (md 9, aI g 5 (fun j => nI ((gCh zu) j)))]) 0 0 := by
  refine ent_z (cc := cX4_ready) (maxL := 4) (by decide) rfl (Nat.le_of_ble_eq_true rfl) ?_
  intro p e s m below meth c A args Q hE ret ls hl
  obtain ⟨hx, hb, hml, hown, hts, hnm, hA, hP, hD, hK, hN⟩ := hE
  have hS : va_S A s.heap s.heap [] := va_S.rf
  have hl : lv_has ls 4 [(0, .ref (md 0)), (1, .int (vw))] := hl
  have hP : va_P g.1 vwCl [(md 0, .inr (4, [.int (gXt x), .int (nI (gMi x)), .int (nI (gMo x)), .int (nI (gMw x)), .ref (md 1), .ref (md 2), .ref (md 3), .int (nI (gNi x)), .int (nI (gNo x)), .ref (md 4), .ref (md 5), .ref (md 6), .int (nI (gNs x)), .ref (md 7), .ref (md 8), .int (nI (gNb x)), .int (nI (gWd x)), .ref (md 9), .long (gTp x), .long (gBl x), .long (gWt x), .long (gWb x)])), (md 1, aI g 48 (gLo x)), (md 2, aI g 48 (gHi x)), (md 3, aZ g 12 (gTr x)), (md 4, aI g 48 (gNu x)), (md 5, aZ g 12 (gAm x)), (md 6, aJ g 13000 (gSd x)), (md 7, aJ g 85 (gBd x)), (md 8, aJ g 5 (gWy x)), (md 9, aI g 5 (fun j => nI ((gCh x) j)))] s.heap := hP
  obtain ⟨⟨hmi1, hmi⟩, ⟨hmo1, hmo⟩, hmw, htr⟩ := id hmb
  refine lv_aload_n hx hb dX4_ready_0 rfl (lv_at hl 0 rfl) ?_
  refine lv_iconst (v := nI 0) hx hb dX4_ready_1 (by decide) ?_
  refine k_put hx hb hts hown hK hP hD hS iw_X4_ready_X4 rfl tyX4 tyX4_ok nmX4 0 0 fm_X4_ready_46 (by decide) rfl rfl rfl rfl rfl (Nat.le_of_ble_eq_true rfl) dX4_ready_2 (fun H locs hP hD hS => ?_)
  have hP : va_P g.1 vwCl [(md 0, .inr (4, [.int (nI 0), .int (nI (gMi x)), .int (nI (gMo x)), .int (nI (gMw x)), .ref (md 1), .ref (md 2), .ref (md 3), .int (nI (gNi x)), .int (nI (gNo x)), .ref (md 4), .ref (md 5), .ref (md 6), .int (nI (gNs x)), .ref (md 7), .ref (md 8), .int (nI (gNb x)), .int (nI (gWd x)), .ref (md 9), .long (gTp x), .long (gBl x), .long (gWt x), .long (gWb x)])), (md 1, aI g 48 (gLo x)), (md 2, aI g 48 (gHi x)), (md 3, aZ g 12 (gTr x)), (md 4, aI g 48 (gNu x)), (md 5, aZ g 12 (gAm x)), (md 6, aJ g 13000 (gSd x)), (md 7, aJ g 85 (gBd x)), (md 8, aJ g 5 (gWy x)), (md 9, aI g 5 (fun j => nI ((gCh x) j)))] H := hP
  have hD : va_D A [(md 0, .inr (4, [.int (nI 0), .int (nI (gMi x)), .int (nI (gMo x)), .int (nI (gMw x)), .ref (md 1), .ref (md 2), .ref (md 3), .int (nI (gNi x)), .int (nI (gNo x)), .ref (md 4), .ref (md 5), .ref (md 6), .int (nI (gNs x)), .ref (md 7), .ref (md 8), .int (nI (gNb x)), .int (nI (gWd x)), .ref (md 9), .long (gTp x), .long (gBl x), .long (gWt x), .long (gWb x)])), (md 1, aI g 48 (gLo x)), (md 2, aI g 48 (gHi x)), (md 3, aZ g 12 (gTr x)), (md 4, aI g 48 (gNu x)), (md 5, aZ g 12 (gAm x)), (md 6, aJ g 13000 (gSd x)), (md 7, aJ g 85 (gBd x)), (md 8, aJ g 5 (gWy x)), (md 9, aI g 5 (fun j => nI ((gCh x) j)))] := hD
  refine lv_aload_n hx hb dX4_ready_5 rfl (lv_at hl 0 rfl) ?_
  refine go_v (wc := [(md 0, .inr (4, [.int (nI 0), .int (nI (gMi x)), .int (nI (gMo x)), .int (nI (gMw x)), .ref (md 1), .ref (md 2), .ref (md 3), .int (nI (gNi x)), .int (nI (gNo x)), .ref (md 4), .ref (md 5), .ref (md 6), .int (nI (gNs x)), .ref (md 7), .ref (md 8), .int (nI (gNb x)), .int (nI (gWd x)), .ref (md 9), .long (gTp x), .long (gBl x), .long (gWt x), .long (gWb x)])), (md 1, aI g 48 (gLo x)), (md 2, aI g 48 (gHi x)), (md 3, aZ g 12 (gTr x)), (md 4, aI g 48 (gNu x)), (md 5, aZ g 12 (gAm x))]) (wr := [(md 6, aJ g 13000 (gSd x)), (md 7, aJ g 85 (gBd x)), (md 8, aJ g 5 (gWy x)), (md 9, aI g 5 (fun j => nI ((gCh x) j)))]) hP hD hS hA [0, 1, 2, 3, 4, 5] [6, 7, 8, 9] rfl rfl rfl rfl (by decide) (fun hPc hDc => rn_V (As := []) (rest := []) ⟨hx, hb, hml, hown, hts⟩ ((c_X4_plain l g md (nI 0) (gMi x) (gMo x) (gMw x) (gNi x) (gNo x) (gNs x) (gNb x) (gWd x) (gTp x) (gBl x) (gWt x) (gWb x) (gLo x) (gHi x) (gTr x) (gNu x) (gAm x) (by omega) (by omega) (by omega) htr) _) (cw_X4_ready_144_1_20 hts hN ⟨Nat.le_of_ble_eq_true rfl, Nat.le_of_ble_eq_true rfl⟩) hK hN hPc hDc 0 rfl rfl rfl rfl hl.1 (Nat.le_of_ble_eq_true rfl) dX4_ready_6 ⟨Nat.le_of_ble_eq_true rfl, Nat.le_of_ble_eq_true rfl⟩) ?_
  intro u_2 H locs h_3 hP hD hS
  have hP : va_P g.1 vwCl [(md 0, .inr (4, [.int (nI 0), .int (nI (gMi x)), .int (nI (gMo x)), .int (nI (gMw x)), .ref (md 1), .ref (md 2), .ref (md 3), .int (nI (gMi x)), .int (nI (gMo x)), .ref (md 4), .ref (md 5), .ref (md 6), .int (nI (gNs x)), .ref (md 7), .ref (md 8), .int (nI (gNb x)), .int (nI (gWd x)), .ref (md 9), .long (gTp x), .long (gBl x), .long (gWt x), .long (gWb x)])), (md 1, aI g 48 (gLo x)), (md 2, aI g 48 (gHi x)), (md 3, aZ g 12 (gTr x)), (md 4, aI g 48 (rtO (gLo x) (gHi x) (gMi x) ((gMi x) + (gMo x)) 0 (gMw x) (gNu x))), (md 5, aZ g 12 (pI (gAm x) 0 (gTr x) (gMw x))), (md 6, aJ g 13000 (gSd x)), (md 7, aJ g 85 (gBd x)), (md 8, aJ g 5 (gWy x)), (md 9, aI g 5 (fun j => nI ((gCh x) j)))] H := hP.sub [4, 5, 6, 7, 8, 9, 0, 1, 2, 3] rfl
  have hD : va_D A [(md 0, .inr (4, [.int (nI 0), .int (nI (gMi x)), .int (nI (gMo x)), .int (nI (gMw x)), .ref (md 1), .ref (md 2), .ref (md 3), .int (nI (gMi x)), .int (nI (gMo x)), .ref (md 4), .ref (md 5), .ref (md 6), .int (nI (gNs x)), .ref (md 7), .ref (md 8), .int (nI (gNb x)), .int (nI (gWd x)), .ref (md 9), .long (gTp x), .long (gBl x), .long (gWt x), .long (gWb x)])), (md 1, aI g 48 (gLo x)), (md 2, aI g 48 (gHi x)), (md 3, aZ g 12 (gTr x)), (md 4, aI g 48 (rtO (gLo x) (gHi x) (gMi x) ((gMi x) + (gMo x)) 0 (gMw x) (gNu x))), (md 5, aZ g 12 (pI (gAm x) 0 (gTr x) (gMw x))), (md 6, aJ g 13000 (gSd x)), (md 7, aJ g 85 (gBd x)), (md 8, aJ g 5 (gWy x)), (md 9, aI g 5 (fun j => nI ((gCh x) j)))] := hD.sub [4, 5, 6, 7, 8, 9, 0, 1, 2, 3] rfl rfl
  refine lv_iconst (v := nI 0) hx hb dX4_ready_9 (by decide) ?_
  refine lv_istore_n (lv' := [(2, .int (bI false)), (0, .ref (md 0)), (1, .int (vw))]) hx hb dX4_ready_10 rfl hl (by decide) rfl (fun ls hl => ?_)
  refine lv_iconst (v := nI 0) hx hb dX4_ready_11 (by decide) ?_
  refine lv_istore_n (lv' := [(3, .int (nI 0)), (2, .int (bI false)), (0, .ref (md 0)), (1, .int (vw))]) hx hb dX4_ready_12 rfl hl (by decide) rfl (fun ls hl => ?_)
  have lp_13 : ∀ (n : Nat) (k : Nat) (q : Bool), gMw x - k < n → k ≤ gMw x → anB (gTr x) 0 (gMw x) false = anB (gTr x) k (gMw x - k) q → ∀ (H : Heap) (locs : List Loc), va_P g.1 vwCl [(md 0, .inr (4, [.int (nI 0), .int (nI (gMi x)), .int (nI (gMo x)), .int (nI (gMw x)), .ref (md 1), .ref (md 2), .ref (md 3), .int (nI (gMi x)), .int (nI (gMo x)), .ref (md 4), .ref (md 5), .ref (md 6), .int (nI (gNs x)), .ref (md 7), .ref (md 8), .int (nI (gNb x)), .int (nI (gWd x)), .ref (md 9), .long (gTp x), .long (gBl x), .long (gWt x), .long (gWb x)])), (md 1, aI g 48 (gLo x)), (md 2, aI g 48 (gHi x)), (md 3, aZ g 12 (gTr x)), (md 4, aI g 48 (rtO (gLo x) (gHi x) (gMi x) ((gMi x) + (gMo x)) 0 (gMw x) (gNu x))), (md 5, aZ g 12 (pI (gAm x) 0 (gTr x) (gMw x))), (md 6, aJ g 13000 (gSd x)), (md 7, aJ g 85 (gBd x)), (md 8, aJ g 5 (gWy x)), (md 9, aI g 5 (fun j => nI ((gCh x) j)))] H → va_D A [(md 0, .inr (4, [.int (nI 0), .int (nI (gMi x)), .int (nI (gMo x)), .int (nI (gMw x)), .ref (md 1), .ref (md 2), .ref (md 3), .int (nI (gMi x)), .int (nI (gMo x)), .ref (md 4), .ref (md 5), .ref (md 6), .int (nI (gNs x)), .ref (md 7), .ref (md 8), .int (nI (gNb x)), .int (nI (gWd x)), .ref (md 9), .long (gTp x), .long (gBl x), .long (gWt x), .long (gWb x)])), (md 1, aI g 48 (gLo x)), (md 2, aI g 48 (gHi x)), (md 3, aZ g 12 (gTr x)), (md 4, aI g 48 (rtO (gLo x) (gHi x) (gMi x) ((gMi x) + (gMo x)) 0 (gMw x) (gNu x))), (md 5, aZ g 12 (pI (gAm x) 0 (gTr x) (gMw x))), (md 6, aJ g 13000 (gSd x)), (md 7, aJ g 85 (gBd x)), (md 8, aJ g 5 (gWy x)), (md 9, aI g 5 (fun j => nI ((gCh x) j)))] → va_S A s.heap H locs → ∀ ls : Array Slot, lv_has ls 4 [(0, .ref (md 0)), (1, .int (vw)), (2, .int (bI q)), (3, .int (nI k))] → W p l e { frames := 12, cells := 0, slots := 0, locals := 299 } s m args below meth c H locs 0 0 Q (F0 m 13 ls []) := by
    intro n
    induction n with
    | zero =>
      intro k q hms
      omega
    | succ n ih_13 =>
      intro k q hms_13 hk hv H locs hP hD hS ls hl
      refine lv_iload_n hx hb dX4_ready_13 rfl (lv_at hl 3 rfl) ?_
      refine lv_aload_n hx hb dX4_ready_14 rfl (lv_at hl 0 rfl) ?_
      refine k_get hx hb hts hown hK hP iw_X4_ready_X4 rfl 0 3 fm_X4_ready_49 (by decide) rfl rfl dX4_ready_15 ?_
      refine lv_icmp_ge (tgt := 46) hx hb dX4_ready_18 (by decide) (fun c_4 => ?_) (fun c_4 => ?_)
      · skip
        have c_4 := (nI_leI (by omega) (by omega)).mp c_4
        have hany : anB (gTr x) 0 (gMw x) false = q := by rw [hv, show gMw x - k = 0 by omega]; rfl
        refine lv_iload_n hx hb dX4_ready_46 rfl (lv_at hl 1 rfl) ?_
        refine lv_iconst (v := nI 0) hx hb dX4_ready_47 (by decide) ?_
        refine lv_iconst (v := nI 2) hx hb dX4_ready_48 (by decide) ?_
        refine go_i (wc := []) (wr := [(md 0, .inr (4, [.int (nI 0), .int (nI (gMi x)), .int (nI (gMo x)), .int (nI (gMw x)), .ref (md 1), .ref (md 2), .ref (md 3), .int (nI (gMi x)), .int (nI (gMo x)), .ref (md 4), .ref (md 5), .ref (md 6), .int (nI (gNs x)), .ref (md 7), .ref (md 8), .int (nI (gNb x)), .int (nI (gWd x)), .ref (md 9), .long (gTp x), .long (gBl x), .long (gWt x), .long (gWb x)])), (md 1, aI g 48 (gLo x)), (md 2, aI g 48 (gHi x)), (md 3, aZ g 12 (gTr x)), (md 4, aI g 48 (rtO (gLo x) (gHi x) (gMi x) ((gMi x) + (gMo x)) 0 (gMw x) (gNu x))), (md 5, aZ g 12 (pI (gAm x) 0 (gTr x) (gMw x))), (md 6, aJ g 13000 (gSd x)), (md 7, aJ g 85 (gBd x)), (md 8, aJ g 5 (gWy x)), (md 9, aI g 5 (fun j => nI ((gCh x) j)))]) hP hD hS hA [] [0, 1, 2, 3, 4, 5, 6, 7, 8, 9] rfl rfl rfl rfl (by decide) (fun hPc hDc => rn_S (As := [.int (vw), .int (nI 0), .int (nI 2)]) (rest := []) ⟨hx, hb, hml, hown, hts⟩ ((c_X4_isIn l g vw (nI 0) (nI 2) ) _) (cw_X4_ready_52_0_0 hts hN ⟨Nat.le_of_ble_eq_true rfl, Nat.le_of_ble_eq_true rfl⟩) hK hN hPc hDc rfl rfl hl.1 (Nat.le_of_ble_eq_true rfl) dX4_ready_49 ⟨Nat.le_of_ble_eq_true rfl, Nat.le_of_ble_eq_true rfl⟩) ?_
        intro r_5 u_6 H locs h_7 hP hD hS
        have hP : va_P g.1 vwCl [(md 0, .inr (4, [.int (nI 0), .int (nI (gMi x)), .int (nI (gMo x)), .int (nI (gMw x)), .ref (md 1), .ref (md 2), .ref (md 3), .int (nI (gMi x)), .int (nI (gMo x)), .ref (md 4), .ref (md 5), .ref (md 6), .int (nI (gNs x)), .ref (md 7), .ref (md 8), .int (nI (gNb x)), .int (nI (gWd x)), .ref (md 9), .long (gTp x), .long (gBl x), .long (gWt x), .long (gWb x)])), (md 1, aI g 48 (gLo x)), (md 2, aI g 48 (gHi x)), (md 3, aZ g 12 (gTr x)), (md 4, aI g 48 (rtO (gLo x) (gHi x) (gMi x) ((gMi x) + (gMo x)) 0 (gMw x) (gNu x))), (md 5, aZ g 12 (pI (gAm x) 0 (gTr x) (gMw x))), (md 6, aJ g 13000 (gSd x)), (md 7, aJ g 85 (gBd x)), (md 8, aJ g 5 (gWy x)), (md 9, aI g 5 (fun j => nI ((gCh x) j)))] H := hP.sub [0, 1, 2, 3, 4, 5, 6, 7, 8, 9] rfl
        have hD : va_D A [(md 0, .inr (4, [.int (nI 0), .int (nI (gMi x)), .int (nI (gMo x)), .int (nI (gMw x)), .ref (md 1), .ref (md 2), .ref (md 3), .int (nI (gMi x)), .int (nI (gMo x)), .ref (md 4), .ref (md 5), .ref (md 6), .int (nI (gNs x)), .ref (md 7), .ref (md 8), .int (nI (gNb x)), .int (nI (gWd x)), .ref (md 9), .long (gTp x), .long (gBl x), .long (gWt x), .long (gWb x)])), (md 1, aI g 48 (gLo x)), (md 2, aI g 48 (gHi x)), (md 3, aZ g 12 (gTr x)), (md 4, aI g 48 (rtO (gLo x) (gHi x) (gMi x) ((gMi x) + (gMo x)) 0 (gMw x) (gNu x))), (md 5, aZ g 12 (pI (gAm x) 0 (gTr x) (gMw x))), (md 6, aJ g 13000 (gSd x)), (md 7, aJ g 85 (gBd x)), (md 8, aJ g 5 (gWy x)), (md 9, aI g 5 (fun j => nI ((gCh x) j)))] := hD.sub [0, 1, 2, 3, 4, 5, 6, 7, 8, 9] rfl rfl
        have h_7 : r_5 = bI (isI vw (nI 0) (nI 2)) := h_7
        subst h_7
        refine lv_if_eq (tgt := 59) hx hb dX4_ready_52 (by decide) (fun c_8 => ?_) (fun c_8 => ?_)
        · skip
          have hno : ¬ rdC x vw := fun z => absurd (bI_eq0.mp c_8) (by rw [z.1]; decide)
          refine lv_iconst (v := nI 0) hx hb dX4_ready_59 (by decide) ?_
          exact ret dX4_ready_60 ((nI 0, gMi x, gMo x, gMw x, gLo x, gHi x, gTr x, gMi x, gMo x, rtO (gLo x) (gHi x) (gMi x) ((gMi x) + (gMo x)) 0 (gMw x) (gNu x), pI (gAm x) 0 (gTr x) (gMw x), gSd x, gNs x, gBd x, gWy x, gNb x, gWd x, (gCh x), gTp x, gBl x, gWt x, gWb x)) (⟨⟨rfl, rfl, rfl, rfl, rfl, rfl⟩, Or.inr ⟨hno, rfl⟩⟩) (by decide) hP hD hS
        · skip
          have h1 := bI_ne0.mp c_8
          refine lv_iload_n hx hb dX4_ready_55 rfl (lv_at hl 2 rfl) ?_
          refine lv_if_ne (tgt := 61) hx hb dX4_ready_56 (by decide) (fun c_9 => ?_) (fun c_9 => ?_)
          · skip
            have h2 : anB (gTr x) 0 (gMw x) false = true := by rw [hany]; exact bI_ne0.mp c_9
            obtain ⟨v, hvv, hv0, hv2, hv31⟩ := isI_get (by decide) (by decide) h1
            subst hvv
            refine lv_aload_n hx hb dX4_ready_61 rfl (lv_at hl 0 rfl) ?_
            refine lv_iload_n hx hb dX4_ready_62 rfl (lv_at hl 1 rfl) ?_
            refine go_v (wc := [(md 0, .inr (4, [.int (nI 0), .int (nI (gMi x)), .int (nI (gMo x)), .int (nI (gMw x)), .ref (md 1), .ref (md 2), .ref (md 3), .int (nI (gMi x)), .int (nI (gMo x)), .ref (md 4), .ref (md 5), .ref (md 6), .int (nI (gNs x)), .ref (md 7), .ref (md 8), .int (nI (gNb x)), .int (nI (gWd x)), .ref (md 9), .long (gTp x), .long (gBl x), .long (gWt x), .long (gWb x)])), (md 4, aI g 48 (rtO (gLo x) (gHi x) (gMi x) ((gMi x) + (gMo x)) 0 (gMw x) (gNu x))), (md 5, aZ g 12 (pI (gAm x) 0 (gTr x) (gMw x))), (md 7, aJ g 85 (gBd x)), (md 9, aI g 5 (fun j => nI ((gCh x) j))), (md 8, aJ g 5 (gWy x)), (md 6, aJ g 13000 (gSd x))]) (wr := [(md 1, aI g 48 (gLo x)), (md 2, aI g 48 (gHi x)), (md 3, aZ g 12 (gTr x))]) hP hD hS hA [0, 4, 5, 7, 9, 8, 6] [1, 2, 3] rfl rfl rfl rfl (by decide) (fun hPc hDc => rn_V (As := [.int (nI v)]) (rest := []) ⟨hx, hb, hml, hown, hts⟩ ((c_X4_allSides l g md (nI 0) (gMi x) (gMo x) (gMw x) (gMi x) (gMo x) (gNs x) (gNb x) (gWd x) (gTp x) (gBl x) (gWt x) (gWb x) (rtO (gLo x) (gHi x) (gMi x) ((gMi x) + (gMo x)) 0 (gMw x) (gNu x)) (pI (gAm x) 0 (gTr x) (gMw x)) (gBd x) (gCh x) (gWy x) (gSd x) v (by omega) (by omega) (by omega) (by omega) (by omega) (by omega)) _) (cw_X4_ready_118_11_278 hts hN ⟨Nat.le_of_ble_eq_true rfl, Nat.le_of_ble_eq_true rfl⟩) hK hN hPc hDc 0 rfl rfl rfl rfl hl.1 (Nat.le_of_ble_eq_true rfl) dX4_ready_63 ⟨Nat.le_of_ble_eq_true rfl, Nat.le_of_ble_eq_true rfl⟩) ?_
            intro u_11 H locs h_12 hP hD hS
            have hP : va_P g.1 vwCl [(md 0, .inr (4, [.int (nI 0), .int (nI (gMi x)), .int (nI (gMo x)), .int (nI (gMw x)), .ref (md 1), .ref (md 2), .ref (md 3), .int (nI (gMi x)), .int (nI (gMo x)), .ref (md 4), .ref (md 5), .ref (md 6), .int (nI ((asF (bnF (rtO (gLo x) (gHi x) (gMi x) ((gMi x) + (gMo x)) 0 (gMw x) (gNu x)) (pI (gAm x) 0 (gTr x) (gMw x)) (gMi x) (gMo x) (gMw x) v (gBd x)).1 (bnF (rtO (gLo x) (gHi x) (gMi x) ((gMi x) + (gMo x)) 0 (gMw x) (gNu x)) (pI (gAm x) 0 (gTr x) (gMw x)) (gMi x) (gMo x) (gMw x) v (gBd x)).2 (bnW v ((gMi x) + (gMo x))) ((gMi x) + (gMo x)) ((gCh x), (gWy x), (gSd x), 0)).2.2.2)), .ref (md 7), .ref (md 8), .int (nI ((bnF (rtO (gLo x) (gHi x) (gMi x) ((gMi x) + (gMo x)) 0 (gMw x) (gNu x)) (pI (gAm x) 0 (gTr x) (gMw x)) (gMi x) (gMo x) (gMw x) v (gBd x)).2)), .int (nI (bnW v ((gMi x) + (gMo x)))), .ref (md 9), .long (gTp x), .long (gBl x), .long (gWt x), .long (gWb x)])), (md 1, aI g 48 (gLo x)), (md 2, aI g 48 (gHi x)), (md 3, aZ g 12 (gTr x)), (md 4, aI g 48 (rtO (gLo x) (gHi x) (gMi x) ((gMi x) + (gMo x)) 0 (gMw x) (gNu x))), (md 5, aZ g 12 (pI (gAm x) 0 (gTr x) (gMw x))), (md 6, aJ g 13000 ((asF (bnF (rtO (gLo x) (gHi x) (gMi x) ((gMi x) + (gMo x)) 0 (gMw x) (gNu x)) (pI (gAm x) 0 (gTr x) (gMw x)) (gMi x) (gMo x) (gMw x) v (gBd x)).1 (bnF (rtO (gLo x) (gHi x) (gMi x) ((gMi x) + (gMo x)) 0 (gMw x) (gNu x)) (pI (gAm x) 0 (gTr x) (gMw x)) (gMi x) (gMo x) (gMw x) v (gBd x)).2 (bnW v ((gMi x) + (gMo x))) ((gMi x) + (gMo x)) ((gCh x), (gWy x), (gSd x), 0)).2.2.1)), (md 7, aJ g 85 ((bnF (rtO (gLo x) (gHi x) (gMi x) ((gMi x) + (gMo x)) 0 (gMw x) (gNu x)) (pI (gAm x) 0 (gTr x) (gMw x)) (gMi x) (gMo x) (gMw x) v (gBd x)).1)), (md 8, aJ g 5 ((asF (bnF (rtO (gLo x) (gHi x) (gMi x) ((gMi x) + (gMo x)) 0 (gMw x) (gNu x)) (pI (gAm x) 0 (gTr x) (gMw x)) (gMi x) (gMo x) (gMw x) v (gBd x)).1 (bnF (rtO (gLo x) (gHi x) (gMi x) ((gMi x) + (gMo x)) 0 (gMw x) (gNu x)) (pI (gAm x) 0 (gTr x) (gMw x)) (gMi x) (gMo x) (gMw x) v (gBd x)).2 (bnW v ((gMi x) + (gMo x))) ((gMi x) + (gMo x)) ((gCh x), (gWy x), (gSd x), 0)).2.1)), (md 9, aI g 5 (fun j => nI (((asF (bnF (rtO (gLo x) (gHi x) (gMi x) ((gMi x) + (gMo x)) 0 (gMw x) (gNu x)) (pI (gAm x) 0 (gTr x) (gMw x)) (gMi x) (gMo x) (gMw x) v (gBd x)).1 (bnF (rtO (gLo x) (gHi x) (gMi x) ((gMi x) + (gMo x)) 0 (gMw x) (gNu x)) (pI (gAm x) 0 (gTr x) (gMw x)) (gMi x) (gMo x) (gMw x) v (gBd x)).2 (bnW v ((gMi x) + (gMo x))) ((gMi x) + (gMo x)) ((gCh x), (gWy x), (gSd x), 0)).1) j)))] H := hP.sub [3, 0, 1, 2, 4, 5, 9, 6, 8, 7] rfl
            have hD : va_D A [(md 0, .inr (4, [.int (nI 0), .int (nI (gMi x)), .int (nI (gMo x)), .int (nI (gMw x)), .ref (md 1), .ref (md 2), .ref (md 3), .int (nI (gMi x)), .int (nI (gMo x)), .ref (md 4), .ref (md 5), .ref (md 6), .int (nI ((asF (bnF (rtO (gLo x) (gHi x) (gMi x) ((gMi x) + (gMo x)) 0 (gMw x) (gNu x)) (pI (gAm x) 0 (gTr x) (gMw x)) (gMi x) (gMo x) (gMw x) v (gBd x)).1 (bnF (rtO (gLo x) (gHi x) (gMi x) ((gMi x) + (gMo x)) 0 (gMw x) (gNu x)) (pI (gAm x) 0 (gTr x) (gMw x)) (gMi x) (gMo x) (gMw x) v (gBd x)).2 (bnW v ((gMi x) + (gMo x))) ((gMi x) + (gMo x)) ((gCh x), (gWy x), (gSd x), 0)).2.2.2)), .ref (md 7), .ref (md 8), .int (nI ((bnF (rtO (gLo x) (gHi x) (gMi x) ((gMi x) + (gMo x)) 0 (gMw x) (gNu x)) (pI (gAm x) 0 (gTr x) (gMw x)) (gMi x) (gMo x) (gMw x) v (gBd x)).2)), .int (nI (bnW v ((gMi x) + (gMo x)))), .ref (md 9), .long (gTp x), .long (gBl x), .long (gWt x), .long (gWb x)])), (md 1, aI g 48 (gLo x)), (md 2, aI g 48 (gHi x)), (md 3, aZ g 12 (gTr x)), (md 4, aI g 48 (rtO (gLo x) (gHi x) (gMi x) ((gMi x) + (gMo x)) 0 (gMw x) (gNu x))), (md 5, aZ g 12 (pI (gAm x) 0 (gTr x) (gMw x))), (md 6, aJ g 13000 ((asF (bnF (rtO (gLo x) (gHi x) (gMi x) ((gMi x) + (gMo x)) 0 (gMw x) (gNu x)) (pI (gAm x) 0 (gTr x) (gMw x)) (gMi x) (gMo x) (gMw x) v (gBd x)).1 (bnF (rtO (gLo x) (gHi x) (gMi x) ((gMi x) + (gMo x)) 0 (gMw x) (gNu x)) (pI (gAm x) 0 (gTr x) (gMw x)) (gMi x) (gMo x) (gMw x) v (gBd x)).2 (bnW v ((gMi x) + (gMo x))) ((gMi x) + (gMo x)) ((gCh x), (gWy x), (gSd x), 0)).2.2.1)), (md 7, aJ g 85 ((bnF (rtO (gLo x) (gHi x) (gMi x) ((gMi x) + (gMo x)) 0 (gMw x) (gNu x)) (pI (gAm x) 0 (gTr x) (gMw x)) (gMi x) (gMo x) (gMw x) v (gBd x)).1)), (md 8, aJ g 5 ((asF (bnF (rtO (gLo x) (gHi x) (gMi x) ((gMi x) + (gMo x)) 0 (gMw x) (gNu x)) (pI (gAm x) 0 (gTr x) (gMw x)) (gMi x) (gMo x) (gMw x) v (gBd x)).1 (bnF (rtO (gLo x) (gHi x) (gMi x) ((gMi x) + (gMo x)) 0 (gMw x) (gNu x)) (pI (gAm x) 0 (gTr x) (gMw x)) (gMi x) (gMo x) (gMw x) v (gBd x)).2 (bnW v ((gMi x) + (gMo x))) ((gMi x) + (gMo x)) ((gCh x), (gWy x), (gSd x), 0)).2.1)), (md 9, aI g 5 (fun j => nI (((asF (bnF (rtO (gLo x) (gHi x) (gMi x) ((gMi x) + (gMo x)) 0 (gMw x) (gNu x)) (pI (gAm x) 0 (gTr x) (gMw x)) (gMi x) (gMo x) (gMw x) v (gBd x)).1 (bnF (rtO (gLo x) (gHi x) (gMi x) ((gMi x) + (gMo x)) 0 (gMw x) (gNu x)) (pI (gAm x) 0 (gTr x) (gMw x)) (gMi x) (gMo x) (gMw x) v (gBd x)).2 (bnW v ((gMi x) + (gMo x))) ((gMi x) + (gMo x)) ((gCh x), (gWy x), (gSd x), 0)).1) j)))] := hD.sub [3, 0, 1, 2, 4, 5, 9, 6, 8, 7] rfl rfl
            refine lv_iconst (v := nI 1) hx hb dX4_ready_66 (by decide) ?_
            exact ret dX4_ready_67 ((nI 0, gMi x, gMo x, gMw x, gLo x, gHi x, gTr x, gMi x, gMo x, rtO (gLo x) (gHi x) (gMi x) ((gMi x) + (gMo x)) 0 (gMw x) (gNu x), pI (gAm x) 0 (gTr x) (gMw x), (asF (bnF (rtO (gLo x) (gHi x) (gMi x) ((gMi x) + (gMo x)) 0 (gMw x) (gNu x)) (pI (gAm x) 0 (gTr x) (gMw x)) (gMi x) (gMo x) (gMw x) v (gBd x)).1 (bnF (rtO (gLo x) (gHi x) (gMi x) ((gMi x) + (gMo x)) 0 (gMw x) (gNu x)) (pI (gAm x) 0 (gTr x) (gMw x)) (gMi x) (gMo x) (gMw x) v (gBd x)).2 (bnW v ((gMi x) + (gMo x))) ((gMi x) + (gMo x)) ((gCh x), (gWy x), (gSd x), 0)).2.2.1, (asF (bnF (rtO (gLo x) (gHi x) (gMi x) ((gMi x) + (gMo x)) 0 (gMw x) (gNu x)) (pI (gAm x) 0 (gTr x) (gMw x)) (gMi x) (gMo x) (gMw x) v (gBd x)).1 (bnF (rtO (gLo x) (gHi x) (gMi x) ((gMi x) + (gMo x)) 0 (gMw x) (gNu x)) (pI (gAm x) 0 (gTr x) (gMw x)) (gMi x) (gMo x) (gMw x) v (gBd x)).2 (bnW v ((gMi x) + (gMo x))) ((gMi x) + (gMo x)) ((gCh x), (gWy x), (gSd x), 0)).2.2.2, (bnF (rtO (gLo x) (gHi x) (gMi x) ((gMi x) + (gMo x)) 0 (gMw x) (gNu x)) (pI (gAm x) 0 (gTr x) (gMw x)) (gMi x) (gMo x) (gMw x) v (gBd x)).1, (asF (bnF (rtO (gLo x) (gHi x) (gMi x) ((gMi x) + (gMo x)) 0 (gMw x) (gNu x)) (pI (gAm x) 0 (gTr x) (gMw x)) (gMi x) (gMo x) (gMw x) v (gBd x)).1 (bnF (rtO (gLo x) (gHi x) (gMi x) ((gMi x) + (gMo x)) 0 (gMw x) (gNu x)) (pI (gAm x) 0 (gTr x) (gMw x)) (gMi x) (gMo x) (gMw x) v (gBd x)).2 (bnW v ((gMi x) + (gMo x))) ((gMi x) + (gMo x)) ((gCh x), (gWy x), (gSd x), 0)).2.1, (bnF (rtO (gLo x) (gHi x) (gMi x) ((gMi x) + (gMo x)) 0 (gMw x) (gNu x)) (pI (gAm x) 0 (gTr x) (gMw x)) (gMi x) (gMo x) (gMw x) v (gBd x)).2, bnW v ((gMi x) + (gMo x)), ((asF (bnF (rtO (gLo x) (gHi x) (gMi x) ((gMi x) + (gMo x)) 0 (gMw x) (gNu x)) (pI (gAm x) 0 (gTr x) (gMw x)) (gMi x) (gMo x) (gMw x) v (gBd x)).1 (bnF (rtO (gLo x) (gHi x) (gMi x) ((gMi x) + (gMo x)) 0 (gMw x) (gNu x)) (pI (gAm x) 0 (gTr x) (gMw x)) (gMi x) (gMo x) (gMw x) v (gBd x)).2 (bnW v ((gMi x) + (gMo x))) ((gMi x) + (gMo x)) ((gCh x), (gWy x), (gSd x), 0)).1), gTp x, gBl x, gWt x, gWb x)) (⟨⟨rfl, rfl, rfl, rfl, rfl, rfl⟩, Or.inl ⟨⟨h1, h2⟩, rfl, by rw [wN_n hv31]; exact ⟨gBd x, gCh x, gWy x, gSd x, rfl⟩⟩⟩) (by decide) hP hD hS
          · skip
            have hno : ¬ rdC x vw := fun z => absurd (bI_eq0.mp c_9) (by rw [← hany, z.2]; decide)
            refine lv_iconst (v := nI 0) hx hb dX4_ready_59 (by decide) ?_
            exact ret dX4_ready_60 ((nI 0, gMi x, gMo x, gMw x, gLo x, gHi x, gTr x, gMi x, gMo x, rtO (gLo x) (gHi x) (gMi x) ((gMi x) + (gMo x)) 0 (gMw x) (gNu x), pI (gAm x) 0 (gTr x) (gMw x), gSd x, gNs x, gBd x, gWy x, gNb x, gWd x, (gCh x), gTp x, gBl x, gWt x, gWb x)) (⟨⟨rfl, rfl, rfl, rfl, rfl, rfl⟩, Or.inr ⟨hno, rfl⟩⟩) (by decide) hP hD hS
      · skip
        have c_4 := mt (nI_leI (by omega) (by omega)).mpr c_4
        refine lv_iload_n hx hb dX4_ready_21 rfl (lv_at hl 2 rfl) ?_
        have lp_39 : ∀ (qq : Bool), anB (gTr x) 0 (gMw x) false = anB (gTr x) (k + 1) (gMw x - (k + 1)) qq → ∀ (H : Heap) (locs : List Loc), va_P g.1 vwCl [(md 0, .inr (4, [.int (nI 0), .int (nI (gMi x)), .int (nI (gMo x)), .int (nI (gMw x)), .ref (md 1), .ref (md 2), .ref (md 3), .int (nI (gMi x)), .int (nI (gMo x)), .ref (md 4), .ref (md 5), .ref (md 6), .int (nI (gNs x)), .ref (md 7), .ref (md 8), .int (nI (gNb x)), .int (nI (gWd x)), .ref (md 9), .long (gTp x), .long (gBl x), .long (gWt x), .long (gWb x)])), (md 1, aI g 48 (gLo x)), (md 2, aI g 48 (gHi x)), (md 3, aZ g 12 (gTr x)), (md 4, aI g 48 (rtO (gLo x) (gHi x) (gMi x) ((gMi x) + (gMo x)) 0 (gMw x) (gNu x))), (md 5, aZ g 12 (pI (gAm x) 0 (gTr x) (gMw x))), (md 6, aJ g 13000 (gSd x)), (md 7, aJ g 85 (gBd x)), (md 8, aJ g 5 (gWy x)), (md 9, aI g 5 (fun j => nI ((gCh x) j)))] H → va_D A [(md 0, .inr (4, [.int (nI 0), .int (nI (gMi x)), .int (nI (gMo x)), .int (nI (gMw x)), .ref (md 1), .ref (md 2), .ref (md 3), .int (nI (gMi x)), .int (nI (gMo x)), .ref (md 4), .ref (md 5), .ref (md 6), .int (nI (gNs x)), .ref (md 7), .ref (md 8), .int (nI (gNb x)), .int (nI (gWd x)), .ref (md 9), .long (gTp x), .long (gBl x), .long (gWt x), .long (gWb x)])), (md 1, aI g 48 (gLo x)), (md 2, aI g 48 (gHi x)), (md 3, aZ g 12 (gTr x)), (md 4, aI g 48 (rtO (gLo x) (gHi x) (gMi x) ((gMi x) + (gMo x)) 0 (gMw x) (gNu x))), (md 5, aZ g 12 (pI (gAm x) 0 (gTr x) (gMw x))), (md 6, aJ g 13000 (gSd x)), (md 7, aJ g 85 (gBd x)), (md 8, aJ g 5 (gWy x)), (md 9, aI g 5 (fun j => nI ((gCh x) j)))] → va_S A s.heap H locs → ∀ ls : Array Slot, lv_has ls 4 [(0, .ref (md 0)), (1, .int (vw)), (3, .int (nI k))] → W p l e { frames := 12, cells := 0, slots := 0, locals := 299 } s m args below meth c H locs 0 0 Q (F0 m 39 ls [.int (bI qq)]) := by
          intro qq hvq H locs hP hD hS ls hl
          refine lv_istore_n (lv' := [(2, .int (bI qq)), (0, .ref (md 0)), (1, .int (vw)), (3, .int (nI k))]) hx hb dX4_ready_39 rfl hl (by decide) rfl (fun ls hl => ?_)
          refine lv_iinc (v := nI (k + 1)) (lv' := [(3, .int (nI (k + 1))), (2, .int (bI qq)), (0, .ref (md 0)), (1, .int (vw))]) hx hb dX4_ready_40 hl (k := 3) rfl (nI_inc1 k) (by decide) rfl (fun ls hl => ?_)
          refine lv_goto (tgt := 13) hx hb dX4_ready_43 (by decide) ?_
          exact ih_13 (k + 1) qq (by omega) (by omega) hvq _ _ hP hD hS ls (lv_sub hl [2, 3, 1, 0] rfl)
        refine lv_if_ne (tgt := 34) hx hb dX4_ready_22 (by decide) (fun c_13 => ?_) (fun c_13 => ?_)
        · skip
          have hq := bI_ne0.mp c_13
          have hvr : anB (gTr x) 0 (gMw x) false = anB (gTr x) (k + 1) (gMw x - (k + 1)) true := by rw [hv, show gMw x - k = (gMw x - (k + 1)) + 1 by omega, anB, hq]; rfl
          refine lv_iconst (v := nI 1) hx hb dX4_ready_34 (by decide) ?_
          refine k_ei (y := bI true) (rfl) ?_
          refine lv_goto (tgt := 39) hx hb dX4_ready_35 (by decide) ?_
          exact lp_39 true hvr _ _ hP hD hS ls (lv_sub hl [0, 1, 3] rfl)
        · skip
          have hq := bI_eq0.mp c_13
          refine lv_aload_n hx hb dX4_ready_25 rfl (lv_at hl 0 rfl) ?_
          refine k_get hx hb hts hown hK hP iw_X4_ready_X4 rfl 0 6 fm_X4_ready_23 (by decide) rfl rfl dX4_ready_26 ?_
          refine lv_iload_n hx hb dX4_ready_29 rfl (lv_at hl 3 rfl) ?_
          refine k_zald hx hb hK hP 3 rfl (by omega) (by omega) dX4_ready_30 ?_
          refine lv_if_eq (tgt := 38) hx hb dX4_ready_31 (by decide) (fun c_14 => ?_) (fun c_14 => ?_)
          · skip
            have hvr : anB (gTr x) 0 (gMw x) false = anB (gTr x) (k + 1) (gMw x - (k + 1)) false := by rw [hv, show gMw x - k = (gMw x - (k + 1)) + 1 by omega, anB, hq, decide_eq_true c_14]; rfl
            refine lv_iconst (v := nI 0) hx hb dX4_ready_38 (by decide) ?_
            refine k_ei (y := bI false) (rfl) ?_
            exact lp_39 false hvr _ _ hP hD hS ls (lv_sub hl [0, 1, 3] rfl)
          · skip
            have hvr : anB (gTr x) 0 (gMw x) false = anB (gTr x) (k + 1) (gMw x - (k + 1)) true := by rw [hv, show gMw x - k = (gMw x - (k + 1)) + 1 by omega, anB, hq, decide_eq_false c_14]; rfl
            refine lv_iconst (v := nI 1) hx hb dX4_ready_34 (by decide) ?_
            refine k_ei (y := bI true) (rfl) ?_
            refine lv_goto (tgt := 39) hx hb dX4_ready_35 (by decide) ?_
            exact lp_39 true hvr _ _ hP hD hS ls (lv_sub hl [0, 1, 3] rfl)
  exact lp_13 (gMw x - 0 + 1) 0 false (by omega) (by omega) rfl _ _ hP hD hS ls (lv_sub hl [2, 3, 1, 0] rfl)
theorem hdn_X4_ready : yX4_ready.cls ≠ "java/lang/invoke/MethodHandle" ∧ yX4_ready.cls ≠ "java/lang/invoke/VarHandle" ∧ (parseMethodDescriptor yX4_ready.desc).map (fun d => d.parameters.length) = some 1 := by decide +kernel
theorem cw_X4_sides_173_12_299 {R : Room} {s : State} {args : Array Value} (hts : ∀ w ∈ wsX4_sides, w.before args s = true) (hN : nsW s) (hR : 12 + 1 ≤ R.frames ∧ 8 + (4 + 11) + 299 ≤ R.locals) : CallW R s args RX4 RX4 173 yX4_ready cX4_ready 4 (some .boolean) wsX4_ready { frames := 12, cells := 0, slots := 0, locals := 299 } 0 0 1 := cwV 1 hts gX4_sides_X4_ready rfl rfl rfl ⟨rfl, hdn_X4_ready⟩ hR
theorem iw_X4_sides_X4 : ∀ w ∈ wsX40, w ∈ wsX4_sides := fun w h => List.mem_cons_of_mem _ (List.mem_append_right _ h)
theorem fm_X4_sides_81 : Cond.fieldLink RX4 81 "EdgeBenchModel" "sides" "I" ∈ wsX4_sides := List.mem_of_getElem? (i := 1) rfl
set_option maxHeartbeats 20000000 in
set_option maxRecDepth 100000 in
theorem c_X4_sides (l : Launch) (g : Gt) (md : Nat → Nat) (x : MS) (vw : Int32) (hmb : mBen x) : CI l yX4_sides wsX4_sides { frames := 13, cells := 0, slots := 0, locals := 322 } g [.ref (md 0), .int (vw)] [(md 0, .inr (4, [.int (gXt x), .int (nI (gMi x)), .int (nI (gMo x)), .int (nI (gMw x)), .ref (md 1), .ref (md 2), .ref (md 3), .int (nI (gNi x)), .int (nI (gNo x)), .ref (md 4), .ref (md 5), .ref (md 6), .int (nI (gNs x)), .ref (md 7), .ref (md 8), .int (nI (gNb x)), .int (nI (gWd x)), .ref (md 9), .long (gTp x), .long (gBl x), .long (gWt x), .long (gWb x)])), (md 1, aI g 48 (gLo x)), (md 2, aI g 48 (gHi x)), (md 3, aZ g 12 (gTr x)), (md 4, aI g 48 (gNu x)), (md 5, aZ g 12 (gAm x)), (md 6, aJ g 13000 (gSd x)), (md 7, aJ g 85 (gBd x)), (md 8, aJ g 5 (gWy x)), (md 9, aI g 5 (fun j => nI ((gCh x) j)))] (fun zr (zu : MS) => mKeep x zu ∧ msdP x vw zr) (fun (zu : MS) => [(md 0, .inr (4, [.int (gXt zu), .int (nI (gMi zu)), .int (nI (gMo zu)), .int (nI (gMw zu)), .ref (md 1), .ref (md 2), .ref (md 3), .int (nI (gNi zu)), .int (nI (gNo zu)), .ref (md 4), .ref (md 5), .ref (md 6), .int (nI (gNs zu)), .ref (md 7), .ref (md 8), .int (nI (gNb zu)), .int (nI (gWd zu)), .ref (md 9), .long (gTp zu), .long (gBl zu), .long (gWt zu), .long (gWb zu)])), (md 1, aI g 48 (gLo zu)), (md 2, aI g 48 (gHi zu)), (md 3, aZ g 12 (gTr zu)), (md 4, aI g 48 (gNu zu)), (md 5, aZ g 12 (gAm zu)), (md 6, aJ g 13000 (gSd zu)), (md 7, aJ g 85 (gBd zu)), (md 8, aJ g 5 (gWy zu)), (md 9, aI g 5 (fun j => nI ((gCh zu) j)))]) 0 0 := by
  refine ent_i (cc := cX4_sides) (maxL := 2) (by decide) rfl (Nat.le_of_ble_eq_true rfl) ?_
  intro p e s m below meth c A args Q hE ret ls hl
  obtain ⟨hx, hb, hml, hown, hts, hnm, hA, hP, hD, hK, hN⟩ := hE
  have hS : va_S A s.heap s.heap [] := va_S.rf
  have hl : lv_has ls 2 [(0, .ref (md 0)), (1, .int (vw))] := hl
  have hP : va_P g.1 vwCl [(md 0, .inr (4, [.int (gXt x), .int (nI (gMi x)), .int (nI (gMo x)), .int (nI (gMw x)), .ref (md 1), .ref (md 2), .ref (md 3), .int (nI (gNi x)), .int (nI (gNo x)), .ref (md 4), .ref (md 5), .ref (md 6), .int (nI (gNs x)), .ref (md 7), .ref (md 8), .int (nI (gNb x)), .int (nI (gWd x)), .ref (md 9), .long (gTp x), .long (gBl x), .long (gWt x), .long (gWb x)])), (md 1, aI g 48 (gLo x)), (md 2, aI g 48 (gHi x)), (md 3, aZ g 12 (gTr x)), (md 4, aI g 48 (gNu x)), (md 5, aZ g 12 (gAm x)), (md 6, aJ g 13000 (gSd x)), (md 7, aJ g 85 (gBd x)), (md 8, aJ g 5 (gWy x)), (md 9, aI g 5 (fun j => nI ((gCh x) j)))] s.heap := hP
  obtain ⟨⟨hmi1, hmi⟩, ⟨hmo1, hmo⟩, hmw, htr⟩ := id hmb
  refine lv_aload_n hx hb dX4_sides_0 rfl (lv_at hl 0 rfl) ?_
  refine lv_iload_n hx hb dX4_sides_1 rfl (lv_at hl 1 rfl) ?_
  refine go_i (wc := [(md 0, .inr (4, [.int (gXt x), .int (nI (gMi x)), .int (nI (gMo x)), .int (nI (gMw x)), .ref (md 1), .ref (md 2), .ref (md 3), .int (nI (gNi x)), .int (nI (gNo x)), .ref (md 4), .ref (md 5), .ref (md 6), .int (nI (gNs x)), .ref (md 7), .ref (md 8), .int (nI (gNb x)), .int (nI (gWd x)), .ref (md 9), .long (gTp x), .long (gBl x), .long (gWt x), .long (gWb x)])), (md 1, aI g 48 (gLo x)), (md 2, aI g 48 (gHi x)), (md 3, aZ g 12 (gTr x)), (md 4, aI g 48 (gNu x)), (md 5, aZ g 12 (gAm x)), (md 6, aJ g 13000 (gSd x)), (md 7, aJ g 85 (gBd x)), (md 8, aJ g 5 (gWy x)), (md 9, aI g 5 (fun j => nI ((gCh x) j)))]) (wr := []) hP hD hS hA [0, 1, 2, 3, 4, 5, 6, 7, 8, 9] [] rfl rfl rfl rfl (by decide) (fun hPc hDc => rn_V (As := [.int (vw)]) (rest := []) ⟨hx, hb, hml, hown, hts⟩ ((c_X4_ready l g md x vw hmb) _) (cw_X4_sides_173_12_299 hts hN ⟨Nat.le_of_ble_eq_true rfl, Nat.le_of_ble_eq_true rfl⟩) hK hN hPc hDc 0 rfl rfl rfl rfl hl.1 (Nat.le_of_ble_eq_true rfl) dX4_sides_2 ⟨Nat.le_of_ble_eq_true rfl, Nat.le_of_ble_eq_true rfl⟩) ?_
  intro r_1 u_2 H locs h_3 hP hD hS
  have hP : va_P g.1 vwCl [(md 0, .inr (4, [.int (gXt u_2), .int (nI (gMi u_2)), .int (nI (gMo u_2)), .int (nI (gMw u_2)), .ref (md 1), .ref (md 2), .ref (md 3), .int (nI (gNi u_2)), .int (nI (gNo u_2)), .ref (md 4), .ref (md 5), .ref (md 6), .int (nI (gNs u_2)), .ref (md 7), .ref (md 8), .int (nI (gNb u_2)), .int (nI (gWd u_2)), .ref (md 9), .long (gTp u_2), .long (gBl u_2), .long (gWt u_2), .long (gWb u_2)])), (md 1, aI g 48 (gLo u_2)), (md 2, aI g 48 (gHi u_2)), (md 3, aZ g 12 (gTr u_2)), (md 4, aI g 48 (gNu u_2)), (md 5, aZ g 12 (gAm u_2)), (md 6, aJ g 13000 (gSd u_2)), (md 7, aJ g 85 (gBd u_2)), (md 8, aJ g 5 (gWy u_2)), (md 9, aI g 5 (fun j => nI ((gCh u_2) j)))] H := hP.sub [0, 1, 2, 3, 4, 5, 6, 7, 8, 9] rfl
  have hD : va_D A [(md 0, .inr (4, [.int (gXt u_2), .int (nI (gMi u_2)), .int (nI (gMo u_2)), .int (nI (gMw u_2)), .ref (md 1), .ref (md 2), .ref (md 3), .int (nI (gNi u_2)), .int (nI (gNo u_2)), .ref (md 4), .ref (md 5), .ref (md 6), .int (nI (gNs u_2)), .ref (md 7), .ref (md 8), .int (nI (gNb u_2)), .int (nI (gWd u_2)), .ref (md 9), .long (gTp u_2), .long (gBl u_2), .long (gWt u_2), .long (gWb u_2)])), (md 1, aI g 48 (gLo u_2)), (md 2, aI g 48 (gHi u_2)), (md 3, aZ g 12 (gTr u_2)), (md 4, aI g 48 (gNu u_2)), (md 5, aZ g 12 (gAm u_2)), (md 6, aJ g 13000 (gSd u_2)), (md 7, aJ g 85 (gBd u_2)), (md 8, aJ g 5 (gWy u_2)), (md 9, aI g 5 (fun j => nI ((gCh u_2) j)))] := hD.sub [0, 1, 2, 3, 4, 5, 6, 7, 8, 9] rfl rfl
  have h_3 : mKeep x u_2 ∧ rdP x u_2 vw r_1 := h_3
  obtain ⟨hkp, hrd⟩ := h_3
  obtain ⟨hk1, hk2, hk3, hk4, hk5, hk6⟩ := id hkp
  refine lv_if_eq (tgt := 15) hx hb dX4_sides_5 (by decide) (fun c_4 => ?_) (fun c_4 => ?_)
  · skip
    have hno := rdP_0 hrd c_4
    refine lv_iconst (v := -1) hx hb dX4_sides_15 (by decide) ?_
    exact ret dX4_sides_16 ((gXt u_2, gMi u_2, gMo u_2, gMw u_2, gLo u_2, gHi u_2, gTr u_2, gNi u_2, gNo u_2, gNu u_2, gAm u_2, gSd u_2, gNs u_2, gBd u_2, gWy u_2, gNb u_2, gWd u_2, (gCh u_2), gTp u_2, gBl u_2, gWt u_2, gWb u_2)) (⟨hkp, Or.inr ⟨hno, rfl⟩⟩) hP hD hS
  · skip
    obtain ⟨hrc, hmo⟩ := rdP_1 hrd c_4
    refine lv_aload_n hx hb dX4_sides_8 rfl (lv_at hl 0 rfl) ?_
    refine k_get hx hb hts hown hK hP iw_X4_sides_X4 rfl 0 12 fm_X4_sides_81 (by decide) rfl rfl dX4_sides_9 ?_
    refine lv_goto (tgt := 16) hx hb dX4_sides_12 (by decide) ?_
    exact ret dX4_sides_16 ((gXt u_2, gMi u_2, gMo u_2, gMw u_2, gLo u_2, gHi u_2, gTr u_2, gNi u_2, gNo u_2, gNu u_2, gAm u_2, gSd u_2, gNs u_2, gBd u_2, gWy u_2, gNb u_2, gWd u_2, (gCh u_2), gTp u_2, gBl u_2, gWt u_2, gWb u_2)) (⟨hkp, Or.inl ⟨hrc, _, _, hmo, rfl⟩⟩) hP hD hS
theorem cw_X4_side_173_12_299 {R : Room} {s : State} {args : Array Value} (hts : ∀ w ∈ wsX4_side, w.before args s = true) (hN : nsW s) (hR : 12 + 1 ≤ R.frames ∧ 8 + (4 + 11) + 299 ≤ R.locals) : CallW R s args RX4 RX4 173 yX4_ready cX4_ready 4 (some .boolean) wsX4_ready { frames := 12, cells := 0, slots := 0, locals := 299 } 0 0 1 := cwV 1 hts gX4_side_X4_ready rfl rfl rfl ⟨rfl, hdn_X4_ready⟩ hR
theorem iw_X4_side_X4 : ∀ w ∈ wsX40, w ∈ wsX4_side := fun w h => List.mem_cons_of_mem _ (List.mem_append_right _ h)
theorem fm_X4_side_81 : Cond.fieldLink RX4 81 "EdgeBenchModel" "sides" "I" ∈ wsX4_side := List.mem_of_getElem? (i := 1) rfl
theorem cw_X4_side_56_0_0 {R : Room} {s : State} {args : Array Value} (hts : ∀ w ∈ wsX4_side, w.before args s = true) (hN : nsW s) (hR : 0 + 1 ≤ R.frames ∧ 8 + (1 + 11) + 0 ≤ R.locals) : CallW R s args RX4 RX4 56 yX4_things cX4_things 1 (some .int) wsX4_things { frames := 0, cells := 0, slots := 0, locals := 0 } 0 0 0 := cwV 0 hts gX4_side_X4_things rfl rfl rfl ⟨rfl, hdn_X4_things⟩ hR
theorem fm_X4_side_33 : Cond.fieldLink RX4 33 "EdgeBenchModel" "side" "[J" ∈ wsX4_side := List.mem_of_getElem? (i := 2) rfl
set_option maxHeartbeats 20000000 in
set_option maxRecDepth 100000 in
theorem c_X4_side (l : Launch) (g : Gt) (md : Nat → Nat) (x : MS) (vw : Int32) (ix : Int32) (kx : Int32) (hmb : mBen x) : CI l yX4_side wsX4_side { frames := 13, cells := 0, slots := 0, locals := 322 } g [.ref (md 0), .int (vw), .int (ix), .int (kx)] [(md 0, .inr (4, [.int (gXt x), .int (nI (gMi x)), .int (nI (gMo x)), .int (nI (gMw x)), .ref (md 1), .ref (md 2), .ref (md 3), .int (nI (gNi x)), .int (nI (gNo x)), .ref (md 4), .ref (md 5), .ref (md 6), .int (nI (gNs x)), .ref (md 7), .ref (md 8), .int (nI (gNb x)), .int (nI (gWd x)), .ref (md 9), .long (gTp x), .long (gBl x), .long (gWt x), .long (gWb x)])), (md 1, aI g 48 (gLo x)), (md 2, aI g 48 (gHi x)), (md 3, aZ g 12 (gTr x)), (md 4, aI g 48 (gNu x)), (md 5, aZ g 12 (gAm x)), (md 6, aJ g 13000 (gSd x)), (md 7, aJ g 85 (gBd x)), (md 8, aJ g 5 (gWy x)), (md 9, aI g 5 (fun j => nI ((gCh x) j)))] (fun zr (zu : MS) => mKeep x zu ∧ msiP x vw ix kx zr) (fun (zu : MS) => [(md 0, .inr (4, [.int (gXt zu), .int (nI (gMi zu)), .int (nI (gMo zu)), .int (nI (gMw zu)), .ref (md 1), .ref (md 2), .ref (md 3), .int (nI (gNi zu)), .int (nI (gNo zu)), .ref (md 4), .ref (md 5), .ref (md 6), .int (nI (gNs zu)), .ref (md 7), .ref (md 8), .int (nI (gNb zu)), .int (nI (gWd zu)), .ref (md 9), .long (gTp zu), .long (gBl zu), .long (gWt zu), .long (gWb zu)])), (md 1, aI g 48 (gLo zu)), (md 2, aI g 48 (gHi zu)), (md 3, aZ g 12 (gTr zu)), (md 4, aI g 48 (gNu zu)), (md 5, aZ g 12 (gAm zu)), (md 6, aJ g 13000 (gSd zu)), (md 7, aJ g 85 (gBd zu)), (md 8, aJ g 5 (gWy zu)), (md 9, aI g 5 (fun j => nI ((gCh zu) j)))]) 0 0 := by
  refine ent_i (cc := cX4_side) (maxL := 4) (by decide) rfl (Nat.le_of_ble_eq_true rfl) ?_
  intro p e s m below meth c A args Q hE ret ls hl
  obtain ⟨hx, hb, hml, hown, hts, hnm, hA, hP, hD, hK, hN⟩ := hE
  have hS : va_S A s.heap s.heap [] := va_S.rf
  have hl : lv_has ls 4 [(0, .ref (md 0)), (1, .int (vw)), (2, .int (ix)), (3, .int (kx))] := hl
  have hP : va_P g.1 vwCl [(md 0, .inr (4, [.int (gXt x), .int (nI (gMi x)), .int (nI (gMo x)), .int (nI (gMw x)), .ref (md 1), .ref (md 2), .ref (md 3), .int (nI (gNi x)), .int (nI (gNo x)), .ref (md 4), .ref (md 5), .ref (md 6), .int (nI (gNs x)), .ref (md 7), .ref (md 8), .int (nI (gNb x)), .int (nI (gWd x)), .ref (md 9), .long (gTp x), .long (gBl x), .long (gWt x), .long (gWb x)])), (md 1, aI g 48 (gLo x)), (md 2, aI g 48 (gHi x)), (md 3, aZ g 12 (gTr x)), (md 4, aI g 48 (gNu x)), (md 5, aZ g 12 (gAm x)), (md 6, aJ g 13000 (gSd x)), (md 7, aJ g 85 (gBd x)), (md 8, aJ g 5 (gWy x)), (md 9, aI g 5 (fun j => nI ((gCh x) j)))] s.heap := hP
  obtain ⟨⟨hmi1, hmi⟩, ⟨hmo1, hmoo⟩, hmw, htr⟩ := id hmb
  refine lv_aload_n hx hb dX4_side_0 rfl (lv_at hl 0 rfl) ?_
  refine lv_iload_n hx hb dX4_side_1 rfl (lv_at hl 1 rfl) ?_
  refine go_i (wc := [(md 0, .inr (4, [.int (gXt x), .int (nI (gMi x)), .int (nI (gMo x)), .int (nI (gMw x)), .ref (md 1), .ref (md 2), .ref (md 3), .int (nI (gNi x)), .int (nI (gNo x)), .ref (md 4), .ref (md 5), .ref (md 6), .int (nI (gNs x)), .ref (md 7), .ref (md 8), .int (nI (gNb x)), .int (nI (gWd x)), .ref (md 9), .long (gTp x), .long (gBl x), .long (gWt x), .long (gWb x)])), (md 1, aI g 48 (gLo x)), (md 2, aI g 48 (gHi x)), (md 3, aZ g 12 (gTr x)), (md 4, aI g 48 (gNu x)), (md 5, aZ g 12 (gAm x)), (md 6, aJ g 13000 (gSd x)), (md 7, aJ g 85 (gBd x)), (md 8, aJ g 5 (gWy x)), (md 9, aI g 5 (fun j => nI ((gCh x) j)))]) (wr := []) hP hD hS hA [0, 1, 2, 3, 4, 5, 6, 7, 8, 9] [] rfl rfl rfl rfl (by decide) (fun hPc hDc => rn_V (As := [.int (vw)]) (rest := []) ⟨hx, hb, hml, hown, hts⟩ ((c_X4_ready l g md x vw hmb) _) (cw_X4_side_173_12_299 hts hN ⟨Nat.le_of_ble_eq_true rfl, Nat.le_of_ble_eq_true rfl⟩) hK hN hPc hDc 0 rfl rfl rfl rfl hl.1 (Nat.le_of_ble_eq_true rfl) dX4_side_2 ⟨Nat.le_of_ble_eq_true rfl, Nat.le_of_ble_eq_true rfl⟩) ?_
  intro r_1 u_2 H locs h_3 hP hD hS
  have hP : va_P g.1 vwCl [(md 0, .inr (4, [.int (gXt u_2), .int (nI (gMi u_2)), .int (nI (gMo u_2)), .int (nI (gMw u_2)), .ref (md 1), .ref (md 2), .ref (md 3), .int (nI (gNi u_2)), .int (nI (gNo u_2)), .ref (md 4), .ref (md 5), .ref (md 6), .int (nI (gNs u_2)), .ref (md 7), .ref (md 8), .int (nI (gNb u_2)), .int (nI (gWd u_2)), .ref (md 9), .long (gTp u_2), .long (gBl u_2), .long (gWt u_2), .long (gWb u_2)])), (md 1, aI g 48 (gLo u_2)), (md 2, aI g 48 (gHi u_2)), (md 3, aZ g 12 (gTr u_2)), (md 4, aI g 48 (gNu u_2)), (md 5, aZ g 12 (gAm u_2)), (md 6, aJ g 13000 (gSd u_2)), (md 7, aJ g 85 (gBd u_2)), (md 8, aJ g 5 (gWy u_2)), (md 9, aI g 5 (fun j => nI ((gCh u_2) j)))] H := hP.sub [0, 1, 2, 3, 4, 5, 6, 7, 8, 9] rfl
  have hD : va_D A [(md 0, .inr (4, [.int (gXt u_2), .int (nI (gMi u_2)), .int (nI (gMo u_2)), .int (nI (gMw u_2)), .ref (md 1), .ref (md 2), .ref (md 3), .int (nI (gNi u_2)), .int (nI (gNo u_2)), .ref (md 4), .ref (md 5), .ref (md 6), .int (nI (gNs u_2)), .ref (md 7), .ref (md 8), .int (nI (gNb u_2)), .int (nI (gWd u_2)), .ref (md 9), .long (gTp u_2), .long (gBl u_2), .long (gWt u_2), .long (gWb u_2)])), (md 1, aI g 48 (gLo u_2)), (md 2, aI g 48 (gHi u_2)), (md 3, aZ g 12 (gTr u_2)), (md 4, aI g 48 (gNu u_2)), (md 5, aZ g 12 (gAm u_2)), (md 6, aJ g 13000 (gSd u_2)), (md 7, aJ g 85 (gBd u_2)), (md 8, aJ g 5 (gWy u_2)), (md 9, aI g 5 (fun j => nI ((gCh u_2) j)))] := hD.sub [0, 1, 2, 3, 4, 5, 6, 7, 8, 9] rfl rfl
  have h_3 : mKeep x u_2 ∧ rdP x u_2 vw r_1 := h_3
  obtain ⟨hkp, hrd⟩ := h_3
  obtain ⟨hk1, hk2, hk3, hk4, hk5, hk6⟩ := id hkp
  refine lv_if_eq (tgt := 32) hx hb dX4_side_5 (by decide) (fun c_4 => ?_) (fun c_4 => ?_)
  · skip
    have hno := rdP_0 hrd c_4
    have hfin : msiP x vw ix kx (-1) := Or.inr ⟨hno, rfl⟩
    refine lv_iconst (v := -1) hx hb dX4_side_32 (by decide) ?_
    exact ret dX4_side_33 ((gXt u_2, gMi u_2, gMo u_2, gMw u_2, gLo u_2, gHi u_2, gTr u_2, gNi u_2, gNo u_2, gNu u_2, gAm u_2, gSd u_2, gNs u_2, gBd u_2, gWy u_2, gNb u_2, gWd u_2, (gCh u_2), gTp u_2, gBl u_2, gWt u_2, gWb u_2)) (⟨hkp, hfin⟩) hP hD hS
  · skip
    obtain ⟨hrc, hmo⟩ := rdP_1 hrd c_4
    have hns := mOK_le hmi hmoo hmw hmo
    refine lv_iload_n hx hb dX4_side_8 rfl (lv_at hl 2 rfl) ?_
    refine lv_if_lt (tgt := 32) hx hb dX4_side_9 (by decide) (fun c_5 => ?_) (fun c_5 => ?_)
    · skip
      have hnn : ¬ (inR ix (gNs u_2) = true ∧ inR kx (gMi x + gMo x + 1) = true) := fun q => by
        have q1 := of_decide_eq_true q.1
        have q2 := of_decide_eq_true q.2
        rw [i32_l0] at c_5; omega
      have hfin : msiP x vw ix kx (-1) := Or.inl ⟨hrc, _, _, hmo, Or.inr ⟨hnn, rfl⟩⟩
      refine lv_iconst (v := -1) hx hb dX4_side_32 (by decide) ?_
      exact ret dX4_side_33 ((gXt u_2, gMi u_2, gMo u_2, gMw u_2, gLo u_2, gHi u_2, gTr u_2, gNi u_2, gNo u_2, gNu u_2, gAm u_2, gSd u_2, gNs u_2, gBd u_2, gWy u_2, gNb u_2, gWd u_2, (gCh u_2), gTp u_2, gBl u_2, gWt u_2, gWb u_2)) (⟨hkp, hfin⟩) hP hD hS
    · skip
      have h1 := c_5
      rw [i32_l0] at h1
      refine lv_iload_n hx hb dX4_side_12 rfl (lv_at hl 2 rfl) ?_
      refine lv_aload_n hx hb dX4_side_13 rfl (lv_at hl 0 rfl) ?_
      refine k_get hx hb hts hown hK hP iw_X4_side_X4 rfl 0 12 fm_X4_side_81 (by decide) rfl rfl dX4_side_14 ?_
      refine lv_icmp_ge (tgt := 32) hx hb dX4_side_17 (by decide) (fun c_6 => ?_) (fun c_6 => ?_)
      · skip
        have hnn : ¬ (inR ix (gNs u_2) = true ∧ inR kx (gMi x + gMo x + 1) = true) := fun q => by
          have q1 := of_decide_eq_true q.1
          have q2 := of_decide_eq_true q.2
          rw [i32_geN (by omega)] at c_6; omega
        have hfin : msiP x vw ix kx (-1) := Or.inl ⟨hrc, _, _, hmo, Or.inr ⟨hnn, rfl⟩⟩
        refine lv_iconst (v := -1) hx hb dX4_side_32 (by decide) ?_
        exact ret dX4_side_33 ((gXt u_2, gMi u_2, gMo u_2, gMw u_2, gLo u_2, gHi u_2, gTr u_2, gNi u_2, gNo u_2, gNu u_2, gAm u_2, gSd u_2, gNs u_2, gBd u_2, gWy u_2, gNb u_2, gWd u_2, (gCh u_2), gTp u_2, gBl u_2, gWt u_2, gWb u_2)) (⟨hkp, hfin⟩) hP hD hS
      · skip
        have h2 := c_6
        rw [i32_geN (by omega)] at h2
        refine lv_iload_n hx hb dX4_side_20 rfl (lv_at hl 3 rfl) ?_
        refine lv_if_lt (tgt := 32) hx hb dX4_side_21 (by decide) (fun c_7 => ?_) (fun c_7 => ?_)
        · skip
          have hnn : ¬ (inR ix (gNs u_2) = true ∧ inR kx (gMi x + gMo x + 1) = true) := fun q => by
            have q1 := of_decide_eq_true q.1
            have q2 := of_decide_eq_true q.2
            rw [i32_l0] at c_7; omega
          have hfin : msiP x vw ix kx (-1) := Or.inl ⟨hrc, _, _, hmo, Or.inr ⟨hnn, rfl⟩⟩
          refine lv_iconst (v := -1) hx hb dX4_side_32 (by decide) ?_
          exact ret dX4_side_33 ((gXt u_2, gMi u_2, gMo u_2, gMw u_2, gLo u_2, gHi u_2, gTr u_2, gNi u_2, gNo u_2, gNu u_2, gAm u_2, gSd u_2, gNs u_2, gBd u_2, gWy u_2, gNb u_2, gWd u_2, (gCh u_2), gTp u_2, gBl u_2, gWt u_2, gWb u_2)) (⟨hkp, hfin⟩) hP hD hS
        · skip
          have h3 := c_7
          rw [i32_l0] at h3
          refine lv_iload_n hx hb dX4_side_24 rfl (lv_at hl 3 rfl) ?_
          refine lv_aload_n hx hb dX4_side_25 rfl (lv_at hl 0 rfl) ?_
          refine go_i (wc := [(md 0, .inr (4, [.int (gXt u_2), .int (nI (gMi u_2)), .int (nI (gMo u_2)), .int (nI (gMw u_2)), .ref (md 1), .ref (md 2), .ref (md 3), .int (nI (gNi u_2)), .int (nI (gNo u_2)), .ref (md 4), .ref (md 5), .ref (md 6), .int (nI (gNs u_2)), .ref (md 7), .ref (md 8), .int (nI (gNb u_2)), .int (nI (gWd u_2)), .ref (md 9), .long (gTp u_2), .long (gBl u_2), .long (gWt u_2), .long (gWb u_2)]))]) (wr := [(md 1, aI g 48 (gLo u_2)), (md 2, aI g 48 (gHi u_2)), (md 3, aZ g 12 (gTr u_2)), (md 4, aI g 48 (gNu u_2)), (md 5, aZ g 12 (gAm u_2)), (md 6, aJ g 13000 (gSd u_2)), (md 7, aJ g 85 (gBd u_2)), (md 8, aJ g 5 (gWy u_2)), (md 9, aI g 5 (fun j => nI ((gCh u_2) j)))]) hP hD hS hA [0] [1, 2, 3, 4, 5, 6, 7, 8, 9] rfl rfl rfl rfl (by decide) (fun hPc hDc => rn_V (As := []) (rest := [.int (kx)]) ⟨hx, hb, hml, hown, hts⟩ ((c_X4_things l g md (gXt u_2) (gMi u_2) (gMo u_2) (gMw u_2) (gNi u_2) (gNo u_2) (gNs u_2) (gNb u_2) (gWd u_2) (gTp u_2) (gBl u_2) (gWt u_2) (gWb u_2) ) _) (cw_X4_side_56_0_0 hts hN ⟨Nat.le_of_ble_eq_true rfl, Nat.le_of_ble_eq_true rfl⟩) hK hN hPc hDc 0 rfl rfl rfl rfl hl.1 (Nat.le_of_ble_eq_true rfl) dX4_side_26 ⟨Nat.le_of_ble_eq_true rfl, Nat.le_of_ble_eq_true rfl⟩) ?_
          intro r_8 u_9 H locs h_10 hP hD hS
          have hP : va_P g.1 vwCl [(md 0, .inr (4, [.int (gXt u_2), .int (nI (gMi u_2)), .int (nI (gMo u_2)), .int (nI (gMw u_2)), .ref (md 1), .ref (md 2), .ref (md 3), .int (nI (gNi u_2)), .int (nI (gNo u_2)), .ref (md 4), .ref (md 5), .ref (md 6), .int (nI (gNs u_2)), .ref (md 7), .ref (md 8), .int (nI (gNb u_2)), .int (nI (gWd u_2)), .ref (md 9), .long (gTp u_2), .long (gBl u_2), .long (gWt u_2), .long (gWb u_2)])), (md 1, aI g 48 (gLo u_2)), (md 2, aI g 48 (gHi u_2)), (md 3, aZ g 12 (gTr u_2)), (md 4, aI g 48 (gNu u_2)), (md 5, aZ g 12 (gAm u_2)), (md 6, aJ g 13000 (gSd u_2)), (md 7, aJ g 85 (gBd u_2)), (md 8, aJ g 5 (gWy u_2)), (md 9, aI g 5 (fun j => nI ((gCh u_2) j)))] H := hP.sub [9, 0, 1, 2, 3, 4, 5, 6, 7, 8] rfl
          have hD : va_D A [(md 0, .inr (4, [.int (gXt u_2), .int (nI (gMi u_2)), .int (nI (gMo u_2)), .int (nI (gMw u_2)), .ref (md 1), .ref (md 2), .ref (md 3), .int (nI (gNi u_2)), .int (nI (gNo u_2)), .ref (md 4), .ref (md 5), .ref (md 6), .int (nI (gNs u_2)), .ref (md 7), .ref (md 8), .int (nI (gNb u_2)), .int (nI (gWd u_2)), .ref (md 9), .long (gTp u_2), .long (gBl u_2), .long (gWt u_2), .long (gWb u_2)])), (md 1, aI g 48 (gLo u_2)), (md 2, aI g 48 (gHi u_2)), (md 3, aZ g 12 (gTr u_2)), (md 4, aI g 48 (gNu u_2)), (md 5, aZ g 12 (gAm u_2)), (md 6, aJ g 13000 (gSd u_2)), (md 7, aJ g 85 (gBd u_2)), (md 8, aJ g 5 (gWy u_2)), (md 9, aI g 5 (fun j => nI ((gCh u_2) j)))] := hD.sub [9, 0, 1, 2, 3, 4, 5, 6, 7, 8] rfl rfl
          have h_10 : r_8 = nI ((gMi u_2) + (gMo u_2)) := h_10
          subst h_10
          refine lv_icmp_le (tgt := 34) hx hb dX4_side_29 (by decide) (fun c_11 => ?_) (fun c_11 => ?_)
          · skip
            have h4 := c_11
            rw [i32_leN (by omega)] at h4
            have hi1 : inR ix (gNs u_2) = true := decide_eq_true (by omega)
            have hk9 : inR kx (gMi x + gMo x + 1) = true := decide_eq_true (by omega)
            obtain ⟨i, hi2, hi31, hii⟩ := inR_nI hi1
            obtain ⟨k, hkk2, hk31, hkk⟩ := inR_nI hk9
            subst hii
            subst hkk
            refine lv_iload_n hx hb dX4_side_34 rfl (lv_at hl 3 rfl) ?_
            refine lv_aload_n hx hb dX4_side_35 rfl (lv_at hl 0 rfl) ?_
            refine go_i (wc := [(md 0, .inr (4, [.int (gXt u_2), .int (nI (gMi u_2)), .int (nI (gMo u_2)), .int (nI (gMw u_2)), .ref (md 1), .ref (md 2), .ref (md 3), .int (nI (gNi u_2)), .int (nI (gNo u_2)), .ref (md 4), .ref (md 5), .ref (md 6), .int (nI (gNs u_2)), .ref (md 7), .ref (md 8), .int (nI (gNb u_2)), .int (nI (gWd u_2)), .ref (md 9), .long (gTp u_2), .long (gBl u_2), .long (gWt u_2), .long (gWb u_2)]))]) (wr := [(md 1, aI g 48 (gLo u_2)), (md 2, aI g 48 (gHi u_2)), (md 3, aZ g 12 (gTr u_2)), (md 4, aI g 48 (gNu u_2)), (md 5, aZ g 12 (gAm u_2)), (md 6, aJ g 13000 (gSd u_2)), (md 7, aJ g 85 (gBd u_2)), (md 8, aJ g 5 (gWy u_2)), (md 9, aI g 5 (fun j => nI ((gCh u_2) j)))]) hP hD hS hA [0] [1, 2, 3, 4, 5, 6, 7, 8, 9] rfl rfl rfl rfl (by decide) (fun hPc hDc => rn_V (As := []) (rest := [.int (nI k)]) ⟨hx, hb, hml, hown, hts⟩ ((c_X4_things l g md (gXt u_2) (gMi u_2) (gMo u_2) (gMw u_2) (gNi u_2) (gNo u_2) (gNs u_2) (gNb u_2) (gWd u_2) (gTp u_2) (gBl u_2) (gWt u_2) (gWb u_2) ) _) (cw_X4_side_56_0_0 hts hN ⟨Nat.le_of_ble_eq_true rfl, Nat.le_of_ble_eq_true rfl⟩) hK hN hPc hDc 0 rfl rfl rfl rfl hl.1 (Nat.le_of_ble_eq_true rfl) dX4_side_36 ⟨Nat.le_of_ble_eq_true rfl, Nat.le_of_ble_eq_true rfl⟩) ?_
            intro r_12 u_13 H locs h_14 hP hD hS
            have hP : va_P g.1 vwCl [(md 0, .inr (4, [.int (gXt u_2), .int (nI (gMi u_2)), .int (nI (gMo u_2)), .int (nI (gMw u_2)), .ref (md 1), .ref (md 2), .ref (md 3), .int (nI (gNi u_2)), .int (nI (gNo u_2)), .ref (md 4), .ref (md 5), .ref (md 6), .int (nI (gNs u_2)), .ref (md 7), .ref (md 8), .int (nI (gNb u_2)), .int (nI (gWd u_2)), .ref (md 9), .long (gTp u_2), .long (gBl u_2), .long (gWt u_2), .long (gWb u_2)])), (md 1, aI g 48 (gLo u_2)), (md 2, aI g 48 (gHi u_2)), (md 3, aZ g 12 (gTr u_2)), (md 4, aI g 48 (gNu u_2)), (md 5, aZ g 12 (gAm u_2)), (md 6, aJ g 13000 (gSd u_2)), (md 7, aJ g 85 (gBd u_2)), (md 8, aJ g 5 (gWy u_2)), (md 9, aI g 5 (fun j => nI ((gCh u_2) j)))] H := hP.sub [9, 0, 1, 2, 3, 4, 5, 6, 7, 8] rfl
            have hD : va_D A [(md 0, .inr (4, [.int (gXt u_2), .int (nI (gMi u_2)), .int (nI (gMo u_2)), .int (nI (gMw u_2)), .ref (md 1), .ref (md 2), .ref (md 3), .int (nI (gNi u_2)), .int (nI (gNo u_2)), .ref (md 4), .ref (md 5), .ref (md 6), .int (nI (gNs u_2)), .ref (md 7), .ref (md 8), .int (nI (gNb u_2)), .int (nI (gWd u_2)), .ref (md 9), .long (gTp u_2), .long (gBl u_2), .long (gWt u_2), .long (gWb u_2)])), (md 1, aI g 48 (gLo u_2)), (md 2, aI g 48 (gHi u_2)), (md 3, aZ g 12 (gTr u_2)), (md 4, aI g 48 (gNu u_2)), (md 5, aZ g 12 (gAm u_2)), (md 6, aJ g 13000 (gSd u_2)), (md 7, aJ g 85 (gBd u_2)), (md 8, aJ g 5 (gWy u_2)), (md 9, aI g 5 (fun j => nI ((gCh u_2) j)))] := hD.sub [9, 0, 1, 2, 3, 4, 5, 6, 7, 8] rfl rfl
            have h_14 : r_12 = nI ((gMi u_2) + (gMo u_2)) := h_14
            subst h_14
            refine lv_icmp_ne (tgt := 57) hx hb dX4_side_39 (by decide) (fun c_15 => ?_) (fun c_15 => ?_)
            · skip
              have c_15 := mt (nI_eq (by omega) (by omega)).mpr c_15
              have hlk : lst (gMi x + gMo x) k = k := if_neg (by omega)
              refine lv_aload_n hx hb dX4_side_57 rfl (lv_at hl 0 rfl) ?_
              refine k_get hx hb hts hown hK hP iw_X4_side_X4 rfl 0 11 fm_X4_side_33 (by decide) rfl rfl dX4_side_58 ?_
              refine lv_iconst (v := nI 5) hx hb dX4_side_61 (by decide) ?_
              refine lv_iload_n hx hb dX4_side_62 rfl (lv_at hl 2 rfl) ?_
              refine lv_imul hx hb dX4_side_63 ?_
              refine k_ei (y := nI (i * 5)) ((pk_mul _ _).trans (congrArg nI (Nat.mul_comm _ _))) ?_
              refine lv_iload_n hx hb dX4_side_64 rfl (lv_at hl 3 rfl) ?_
              refine lv_iadd hx hb dX4_side_65 ?_
              refine k_ei (y := nI (i * 5 + k)) (nI_add _ _) ?_
              refine k_lald hx hb hK hP 6 rfl (by omega) (by omega) dX4_side_66 ?_
              refine k_el (y := (gSd u_2) (i * 5 + lst (gMi x + gMo x) k)) (by rw [hlk]) ?_
              refine lv_l2i hx hb dX4_side_67 rfl ?_
              exact ret dX4_side_68 ((gXt u_2, gMi u_2, gMo u_2, gMw u_2, gLo u_2, gHi u_2, gTr u_2, gNi u_2, gNo u_2, gNu u_2, gAm u_2, gSd u_2, gNs u_2, gBd u_2, gWy u_2, gNb u_2, gWd u_2, (gCh u_2), gTp u_2, gBl u_2, gWt u_2, gWb u_2)) (⟨hkp, Or.inl ⟨hrc, _, _, hmo, Or.inl ⟨hi1, hk9, by rw [wN_n hi31, wN_n hk31]⟩⟩⟩) hP hD hS
            · skip
              have c_15 := (nI_eq (by omega) (by omega)).mp c_15
              have hlk : lst (gMi x + gMo x) k = 4 := if_pos (by omega)
              refine lv_aload_n hx hb dX4_side_42 rfl (lv_at hl 0 rfl) ?_
              refine k_get hx hb hts hown hK hP iw_X4_side_X4 rfl 0 11 fm_X4_side_33 (by decide) rfl rfl dX4_side_43 ?_
              refine lv_iconst (v := nI 5) hx hb dX4_side_46 (by decide) ?_
              refine lv_iload_n hx hb dX4_side_47 rfl (lv_at hl 2 rfl) ?_
              refine lv_imul hx hb dX4_side_48 ?_
              refine k_ei (y := nI (i * 5)) ((pk_mul _ _).trans (congrArg nI (Nat.mul_comm _ _))) ?_
              refine lv_iconst (v := nI 5) hx hb dX4_side_49 (by decide) ?_
              refine lv_iadd hx hb dX4_side_50 ?_
              refine k_ei (y := nI (i * 5 + 5)) (nI_add _ _) ?_
              refine lv_iconst (v := nI 1) hx hb dX4_side_51 (by decide) ?_
              refine lv_isub hx hb dX4_side_52 ?_
              refine k_ei (y := nI ((i * 5 + 5) - 1)) (pk_sub (by omega)) ?_
              refine k_lald hx hb hK hP 6 rfl (by omega) (by omega) dX4_side_53 ?_
              refine k_el (y := (gSd u_2) (i * 5 + lst (gMi x + gMo x) k)) (by rw [hlk, show i * 5 + 5 - 1 = i * 5 + 4 by omega]) ?_
              refine lv_goto (tgt := 67) hx hb dX4_side_54 (by decide) ?_
              refine lv_l2i hx hb dX4_side_67 rfl ?_
              exact ret dX4_side_68 ((gXt u_2, gMi u_2, gMo u_2, gMw u_2, gLo u_2, gHi u_2, gTr u_2, gNi u_2, gNo u_2, gNu u_2, gAm u_2, gSd u_2, gNs u_2, gBd u_2, gWy u_2, gNb u_2, gWd u_2, (gCh u_2), gTp u_2, gBl u_2, gWt u_2, gWb u_2)) (⟨hkp, Or.inl ⟨hrc, _, _, hmo, Or.inl ⟨hi1, hk9, by rw [wN_n hi31, wN_n hk31]⟩⟩⟩) hP hD hS
          · skip
            have hnn : ¬ (inR ix (gNs u_2) = true ∧ inR kx (gMi x + gMo x + 1) = true) := fun q => by
              have q1 := of_decide_eq_true q.1
              have q2 := of_decide_eq_true q.2
              rw [i32_leN (by omega)] at c_11; omega
            have hfin : msiP x vw ix kx (-1) := Or.inl ⟨hrc, _, _, hmo, Or.inr ⟨hnn, rfl⟩⟩
            refine lv_iconst (v := -1) hx hb dX4_side_32 (by decide) ?_
            exact ret dX4_side_33 ((gXt u_2, gMi u_2, gMo u_2, gMw u_2, gLo u_2, gHi u_2, gTr u_2, gNi u_2, gNo u_2, gNu u_2, gAm u_2, gSd u_2, gNs u_2, gBd u_2, gWy u_2, gNb u_2, gWd u_2, (gCh u_2), gTp u_2, gBl u_2, gWt u_2, gWb u_2)) (⟨hkp, hfin⟩) hP hD hS
theorem cw_X4_suits_52_0_0 {R : Room} {s : State} {args : Array Value} (hts : ∀ w ∈ wsX4_suits, w.before args s = true) (hN : nsW s) (hR : 0 + 1 ≤ R.frames ∧ 8 + (3 + 11) + 0 ≤ R.locals) : CallB R s args RX4 52 yX4_isIn cX4_isIn 3 (some .boolean) wsX4_isIn { frames := 0, cells := 0, slots := 0, locals := 0 } 0 0 3 ∧ (Cond.static yX4_isIn).before args s = true := va_cwS 3 hts gX4_suits_X4_isIn rfl rfl rfl hdn_X4_isIn hR
theorem cw_X4_suits_154_2_42 {R : Room} {s : State} {args : Array Value} (hts : ∀ w ∈ wsX4_suits, w.before args s = true) (hN : nsW s) (hR : 2 + 1 ≤ R.frames ∧ 8 + (3 + 11) + 42 ≤ R.locals) : CallW R s args RX4 RX4 154 yX4_asks cX4_asks 3 (some .boolean) wsX4_asks { frames := 2, cells := 0, slots := 0, locals := 42 } 0 0 2 := cwV 2 hts gX4_suits_X4_asks rfl rfl rfl ⟨rfl, hdn_X4_asks⟩ hR
theorem cw_X4_suits_157_12_299 {R : Room} {s : State} {args : Array Value} (hts : ∀ w ∈ wsX4_suits, w.before args s = true) (hN : nsW s) (hR : 12 + 1 ≤ R.frames ∧ 8 + (9 + 11) + 299 ≤ R.locals) : CallW R s args RX4 RX4 157 yX4_shares cX4_shares 9 (some .boolean) wsX4_shares { frames := 12, cells := 0, slots := 0, locals := 299 } 0 0 2 := cwV 2 hts gX4_suits_X4_shares rfl rfl rfl ⟨rfl, hdn_X4_shares⟩ hR
theorem iw_X4_suits_X4 : ∀ w ∈ wsX40, w ∈ wsX4_suits := fun w h => List.mem_cons_of_mem _ (List.mem_append_right _ h)
theorem fm_X4_suits_81 : Cond.fieldLink RX4 81 "EdgeBenchModel" "sides" "I" ∈ wsX4_suits := List.mem_of_getElem? (i := 1) rfl
theorem cw_X4_suits_128_0_0 {R : Room} {s : State} {args : Array Value} (hts : ∀ w ∈ wsX4_suits, w.before args s = true) (hN : nsW s) (hR : 0 + 1 ≤ R.frames ∧ 8 + (6 + 11) + 0 ≤ R.locals) : CallW R s args RX4 RX4 128 yX4_inWeighed cX4_inWeighed 6 (some .long) wsX4_inWeighed { frames := 0, cells := 0, slots := 0, locals := 0 } 0 0 2 := cwV 2 hts gX4_suits_X4_inWeighed rfl rfl rfl ⟨rfl, hdn_X4_inWeighed⟩ hR
theorem hdn_X4_isBest : yX4_isBest.cls ≠ "java/lang/invoke/MethodHandle" ∧ yX4_isBest.cls ≠ "java/lang/invoke/VarHandle" ∧ (parseMethodDescriptor yX4_isBest.desc).map (fun d => d.parameters.length) = some 2 := by decide +kernel
theorem cw_X4_suits_167_1_25 {R : Room} {s : State} {args : Array Value} (hts : ∀ w ∈ wsX4_suits, w.before args s = true) (hN : nsW s) (hR : 1 + 1 ≤ R.frames ∧ 8 + (3 + 11) + 25 ≤ R.locals) : CallW R s args RX4 RX4 167 yX4_isBest cX4_isBest 3 (some .boolean) wsX4_isBest { frames := 1, cells := 0, slots := 0, locals := 25 } 0 0 2 := cwV 2 hts gX4_suits_X4_isBest rfl rfl rfl ⟨rfl, hdn_X4_isBest⟩ hR
set_option maxHeartbeats 20000000 in
set_option maxRecDepth 100000 in
theorem c_X4_suits (l : Launch) (g : Gt) (md : Nat → Nat) (x : MS) (vw : Int32) (wk : Int32) (ix : Int32) (hmb : mBen x) : CI l yX4_suits wsX4_suits { frames := 13, cells := 0, slots := 0, locals := 327 } g [.ref (md 0), .int (vw), .int (wk), .int (ix)] [(md 0, .inr (4, [.int (gXt x), .int (nI (gMi x)), .int (nI (gMo x)), .int (nI (gMw x)), .ref (md 1), .ref (md 2), .ref (md 3), .int (nI (gNi x)), .int (nI (gNo x)), .ref (md 4), .ref (md 5), .ref (md 6), .int (nI (gNs x)), .ref (md 7), .ref (md 8), .int (nI (gNb x)), .int (nI (gWd x)), .ref (md 9), .long (gTp x), .long (gBl x), .long (gWt x), .long (gWb x)])), (md 1, aI g 48 (gLo x)), (md 2, aI g 48 (gHi x)), (md 3, aZ g 12 (gTr x)), (md 4, aI g 48 (gNu x)), (md 5, aZ g 12 (gAm x)), (md 6, aJ g 13000 (gSd x)), (md 7, aJ g 85 (gBd x)), (md 8, aJ g 5 (gWy x)), (md 9, aI g 5 (fun j => nI ((gCh x) j)))] (fun zr (zu : MS) => mKeep x zu ∧ msuP x vw wk ix zr) (fun (zu : MS) => [(md 0, .inr (4, [.int (gXt zu), .int (nI (gMi zu)), .int (nI (gMo zu)), .int (nI (gMw zu)), .ref (md 1), .ref (md 2), .ref (md 3), .int (nI (gNi zu)), .int (nI (gNo zu)), .ref (md 4), .ref (md 5), .ref (md 6), .int (nI (gNs zu)), .ref (md 7), .ref (md 8), .int (nI (gNb zu)), .int (nI (gWd zu)), .ref (md 9), .long (gTp zu), .long (gBl zu), .long (gWt zu), .long (gWb zu)])), (md 1, aI g 48 (gLo zu)), (md 2, aI g 48 (gHi zu)), (md 3, aZ g 12 (gTr zu)), (md 4, aI g 48 (gNu zu)), (md 5, aZ g 12 (gAm zu)), (md 6, aJ g 13000 (gSd zu)), (md 7, aJ g 85 (gBd zu)), (md 8, aJ g 5 (gWy zu)), (md 9, aI g 5 (fun j => nI ((gCh zu) j)))]) 0 0 := by
  refine ent_i (cc := cX4_suits) (maxL := 5) (by decide) rfl (Nat.le_of_ble_eq_true rfl) ?_
  intro p e s m below meth c A args Q hE ret ls hl
  obtain ⟨hx, hb, hml, hown, hts, hnm, hA, hP, hD, hK, hN⟩ := hE
  have hS : va_S A s.heap s.heap [] := va_S.rf
  have hl : lv_has ls 5 [(0, .ref (md 0)), (1, .int (vw)), (2, .int (wk)), (3, .int (ix))] := hl
  have hP : va_P g.1 vwCl [(md 0, .inr (4, [.int (gXt x), .int (nI (gMi x)), .int (nI (gMo x)), .int (nI (gMw x)), .ref (md 1), .ref (md 2), .ref (md 3), .int (nI (gNi x)), .int (nI (gNo x)), .ref (md 4), .ref (md 5), .ref (md 6), .int (nI (gNs x)), .ref (md 7), .ref (md 8), .int (nI (gNb x)), .int (nI (gWd x)), .ref (md 9), .long (gTp x), .long (gBl x), .long (gWt x), .long (gWb x)])), (md 1, aI g 48 (gLo x)), (md 2, aI g 48 (gHi x)), (md 3, aZ g 12 (gTr x)), (md 4, aI g 48 (gNu x)), (md 5, aZ g 12 (gAm x)), (md 6, aJ g 13000 (gSd x)), (md 7, aJ g 85 (gBd x)), (md 8, aJ g 5 (gWy x)), (md 9, aI g 5 (fun j => nI ((gCh x) j)))] s.heap := hP
  obtain ⟨⟨hmi1, hmi⟩, ⟨hmo1, hmo⟩, hmw, htr⟩ := id hmb
  refine lv_iload_n hx hb dX4_suits_0 rfl (lv_at hl 1 rfl) ?_
  refine lv_iconst (v := nI 0) hx hb dX4_suits_1 (by decide) ?_
  refine lv_iconst (v := nI 2) hx hb dX4_suits_2 (by decide) ?_
  refine go_i (wc := []) (wr := [(md 0, .inr (4, [.int (gXt x), .int (nI (gMi x)), .int (nI (gMo x)), .int (nI (gMw x)), .ref (md 1), .ref (md 2), .ref (md 3), .int (nI (gNi x)), .int (nI (gNo x)), .ref (md 4), .ref (md 5), .ref (md 6), .int (nI (gNs x)), .ref (md 7), .ref (md 8), .int (nI (gNb x)), .int (nI (gWd x)), .ref (md 9), .long (gTp x), .long (gBl x), .long (gWt x), .long (gWb x)])), (md 1, aI g 48 (gLo x)), (md 2, aI g 48 (gHi x)), (md 3, aZ g 12 (gTr x)), (md 4, aI g 48 (gNu x)), (md 5, aZ g 12 (gAm x)), (md 6, aJ g 13000 (gSd x)), (md 7, aJ g 85 (gBd x)), (md 8, aJ g 5 (gWy x)), (md 9, aI g 5 (fun j => nI ((gCh x) j)))]) hP hD hS hA [] [0, 1, 2, 3, 4, 5, 6, 7, 8, 9] rfl rfl rfl rfl (by decide) (fun hPc hDc => rn_S (As := [.int (vw), .int (nI 0), .int (nI 2)]) (rest := []) ⟨hx, hb, hml, hown, hts⟩ ((c_X4_isIn l g vw (nI 0) (nI 2) ) _) (cw_X4_suits_52_0_0 hts hN ⟨Nat.le_of_ble_eq_true rfl, Nat.le_of_ble_eq_true rfl⟩) hK hN hPc hDc rfl rfl hl.1 (Nat.le_of_ble_eq_true rfl) dX4_suits_3 ⟨Nat.le_of_ble_eq_true rfl, Nat.le_of_ble_eq_true rfl⟩) ?_
  intro r_1 u_2 H locs h_3 hP hD hS
  have hP : va_P g.1 vwCl [(md 0, .inr (4, [.int (gXt x), .int (nI (gMi x)), .int (nI (gMo x)), .int (nI (gMw x)), .ref (md 1), .ref (md 2), .ref (md 3), .int (nI (gNi x)), .int (nI (gNo x)), .ref (md 4), .ref (md 5), .ref (md 6), .int (nI (gNs x)), .ref (md 7), .ref (md 8), .int (nI (gNb x)), .int (nI (gWd x)), .ref (md 9), .long (gTp x), .long (gBl x), .long (gWt x), .long (gWb x)])), (md 1, aI g 48 (gLo x)), (md 2, aI g 48 (gHi x)), (md 3, aZ g 12 (gTr x)), (md 4, aI g 48 (gNu x)), (md 5, aZ g 12 (gAm x)), (md 6, aJ g 13000 (gSd x)), (md 7, aJ g 85 (gBd x)), (md 8, aJ g 5 (gWy x)), (md 9, aI g 5 (fun j => nI ((gCh x) j)))] H := hP.sub [0, 1, 2, 3, 4, 5, 6, 7, 8, 9] rfl
  have hD : va_D A [(md 0, .inr (4, [.int (gXt x), .int (nI (gMi x)), .int (nI (gMo x)), .int (nI (gMw x)), .ref (md 1), .ref (md 2), .ref (md 3), .int (nI (gNi x)), .int (nI (gNo x)), .ref (md 4), .ref (md 5), .ref (md 6), .int (nI (gNs x)), .ref (md 7), .ref (md 8), .int (nI (gNb x)), .int (nI (gWd x)), .ref (md 9), .long (gTp x), .long (gBl x), .long (gWt x), .long (gWb x)])), (md 1, aI g 48 (gLo x)), (md 2, aI g 48 (gHi x)), (md 3, aZ g 12 (gTr x)), (md 4, aI g 48 (gNu x)), (md 5, aZ g 12 (gAm x)), (md 6, aJ g 13000 (gSd x)), (md 7, aJ g 85 (gBd x)), (md 8, aJ g 5 (gWy x)), (md 9, aI g 5 (fun j => nI ((gCh x) j)))] := hD.sub [0, 1, 2, 3, 4, 5, 6, 7, 8, 9] rfl rfl
  have h_3 : r_1 = bI (isI vw (nI 0) (nI 2)) := h_3
  subst h_3
  refine lv_if_eq (tgt := 18) hx hb dX4_suits_6 (by decide) (fun c_4 => ?_) (fun c_4 => ?_)
  · skip
    have hno : ¬ (isI vw (nI 0) (nI 2) = true ∧ asC x vw wk) := fun q => absurd (bI_eq0.mp c_4) (by rw [q.1]; decide)
    have hkp : mKeep x x := ⟨rfl, rfl, rfl, rfl, rfl, rfl⟩
    refine lv_iconst (v := -1) hx hb dX4_suits_18 (by decide) ?_
    exact ret dX4_suits_19 ((gXt x, gMi x, gMo x, gMw x, gLo x, gHi x, gTr x, gNi x, gNo x, gNu x, gAm x, gSd x, gNs x, gBd x, gWy x, gNb x, gWd x, (gCh x), gTp x, gBl x, gWt x, gWb x)) (⟨hkp, Or.inr ⟨hno, rfl⟩⟩) hP hD hS
  · skip
    have hi02 := bI_ne0.mp c_4
    refine lv_aload_n hx hb dX4_suits_9 rfl (lv_at hl 0 rfl) ?_
    refine lv_iload_n hx hb dX4_suits_10 rfl (lv_at hl 1 rfl) ?_
    refine lv_iload_n hx hb dX4_suits_11 rfl (lv_at hl 2 rfl) ?_
    refine go_i (wc := [(md 0, .inr (4, [.int (gXt x), .int (nI (gMi x)), .int (nI (gMo x)), .int (nI (gMw x)), .ref (md 1), .ref (md 2), .ref (md 3), .int (nI (gNi x)), .int (nI (gNo x)), .ref (md 4), .ref (md 5), .ref (md 6), .int (nI (gNs x)), .ref (md 7), .ref (md 8), .int (nI (gNb x)), .int (nI (gWd x)), .ref (md 9), .long (gTp x), .long (gBl x), .long (gWt x), .long (gWb x)])), (md 1, aI g 48 (gLo x)), (md 2, aI g 48 (gHi x)), (md 3, aZ g 12 (gTr x)), (md 4, aI g 48 (gNu x)), (md 5, aZ g 12 (gAm x)), (md 6, aJ g 13000 (gSd x)), (md 7, aJ g 85 (gBd x)), (md 8, aJ g 5 (gWy x)), (md 9, aI g 5 (fun j => nI ((gCh x) j)))]) (wr := []) hP hD hS hA [0, 1, 2, 3, 4, 5, 6, 7, 8, 9] [] rfl rfl rfl rfl (by decide) (fun hPc hDc => rn_V (As := [.int (vw), .int (wk)]) (rest := []) ⟨hx, hb, hml, hown, hts⟩ ((c_X4_asks l g md x vw wk hmb) _) (cw_X4_suits_154_2_42 hts hN ⟨Nat.le_of_ble_eq_true rfl, Nat.le_of_ble_eq_true rfl⟩) hK hN hPc hDc 0 rfl rfl rfl rfl hl.1 (Nat.le_of_ble_eq_true rfl) dX4_suits_12 ⟨Nat.le_of_ble_eq_true rfl, Nat.le_of_ble_eq_true rfl⟩) ?_
    intro r_5 u_6 H locs h_7 hP hD hS
    have hP : va_P g.1 vwCl [(md 0, .inr (4, [.int (gXt u_6), .int (nI (gMi u_6)), .int (nI (gMo u_6)), .int (nI (gMw u_6)), .ref (md 1), .ref (md 2), .ref (md 3), .int (nI (gNi u_6)), .int (nI (gNo u_6)), .ref (md 4), .ref (md 5), .ref (md 6), .int (nI (gNs u_6)), .ref (md 7), .ref (md 8), .int (nI (gNb u_6)), .int (nI (gWd u_6)), .ref (md 9), .long (gTp u_6), .long (gBl u_6), .long (gWt u_6), .long (gWb u_6)])), (md 1, aI g 48 (gLo u_6)), (md 2, aI g 48 (gHi u_6)), (md 3, aZ g 12 (gTr u_6)), (md 4, aI g 48 (gNu u_6)), (md 5, aZ g 12 (gAm u_6)), (md 6, aJ g 13000 (gSd u_6)), (md 7, aJ g 85 (gBd u_6)), (md 8, aJ g 5 (gWy u_6)), (md 9, aI g 5 (fun j => nI ((gCh u_6) j)))] H := hP.sub [0, 1, 2, 3, 4, 5, 6, 7, 8, 9] rfl
    have hD : va_D A [(md 0, .inr (4, [.int (gXt u_6), .int (nI (gMi u_6)), .int (nI (gMo u_6)), .int (nI (gMw u_6)), .ref (md 1), .ref (md 2), .ref (md 3), .int (nI (gNi u_6)), .int (nI (gNo u_6)), .ref (md 4), .ref (md 5), .ref (md 6), .int (nI (gNs u_6)), .ref (md 7), .ref (md 8), .int (nI (gNb u_6)), .int (nI (gWd u_6)), .ref (md 9), .long (gTp u_6), .long (gBl u_6), .long (gWt u_6), .long (gWb u_6)])), (md 1, aI g 48 (gLo u_6)), (md 2, aI g 48 (gHi u_6)), (md 3, aZ g 12 (gTr u_6)), (md 4, aI g 48 (gNu u_6)), (md 5, aZ g 12 (gAm u_6)), (md 6, aJ g 13000 (gSd u_6)), (md 7, aJ g 85 (gBd u_6)), (md 8, aJ g 5 (gWy u_6)), (md 9, aI g 5 (fun j => nI ((gCh u_6) j)))] := hD.sub [0, 1, 2, 3, 4, 5, 6, 7, 8, 9] rfl rfl
    have h_7 : mKeep x u_6 ∧ asP x u_6 vw wk r_5 := h_7
    obtain ⟨hkp, hask⟩ := h_7
    obtain ⟨hk1, hk2, hk3, hk4, hk5, hk6⟩ := id hkp
    refine lv_if_ne (tgt := 20) hx hb dX4_suits_15 (by decide) (fun c_8 => ?_) (fun c_8 => ?_)
    · skip
      obtain ⟨hac, hp1, hp2, hp3, hp4⟩ := asP_1 hask c_8
      obtain ⟨v, hvv, hv0, hv2, hv31⟩ := isI_get (by decide) (by decide) hi02
      obtain ⟨w, hw, hw31, hww⟩ := inR_nI hac.2.1
      subst hvv
      subst hww
      have hwm : w < 12 := by omega
      refine lv_aload_n hx hb dX4_suits_20 rfl (lv_at hl 0 rfl) ?_
      refine lv_iload_n hx hb dX4_suits_21 rfl (lv_at hl 1 rfl) ?_
      refine lv_iload_n hx hb dX4_suits_22 rfl (lv_at hl 2 rfl) ?_
      refine go_i (wc := [(md 0, .inr (4, [.int (gXt u_6), .int (nI (gMi u_6)), .int (nI (gMo u_6)), .int (nI (gMw u_6)), .ref (md 1), .ref (md 2), .ref (md 3), .int (nI (gNi u_6)), .int (nI (gNo u_6)), .ref (md 4), .ref (md 5), .ref (md 6), .int (nI (gNs u_6)), .ref (md 7), .ref (md 8), .int (nI (gNb u_6)), .int (nI (gWd u_6)), .ref (md 9), .long (gTp u_6), .long (gBl u_6), .long (gWt u_6), .long (gWb u_6)])), (md 4, aI g 48 (gNu u_6)), (md 5, aZ g 12 (gAm u_6)), (md 7, aJ g 85 (gBd u_6)), (md 9, aI g 5 (fun j => nI ((gCh u_6) j))), (md 8, aJ g 5 (gWy u_6)), (md 6, aJ g 13000 (gSd u_6))]) (wr := [(md 1, aI g 48 (gLo u_6)), (md 2, aI g 48 (gHi u_6)), (md 3, aZ g 12 (gTr u_6))]) hP hD hS hA [0, 4, 5, 7, 9, 8, 6] [1, 2, 3] rfl rfl rfl rfl (by decide) (fun hPc hDc => rn_V (As := [.int (nI v), .int (nI w)]) (rest := []) ⟨hx, hb, hml, hown, hts⟩ ((c_X4_shares l g md (gXt u_6) (gMi u_6) (gMo u_6) (gMw u_6) (gNi u_6) (gNo u_6) (gNs u_6) (gNb u_6) (gWd u_6) (gTp u_6) (gBl u_6) (gWt u_6) (gWb u_6) (gNu u_6) (gAm u_6) (gBd u_6) (gCh u_6) (gWy u_6) (gSd u_6) v w (by omega) (by omega) (by omega) (by omega) (by omega) (by omega) (by omega)) _) (cw_X4_suits_157_12_299 hts hN ⟨Nat.le_of_ble_eq_true rfl, Nat.le_of_ble_eq_true rfl⟩) hK hN hPc hDc 0 rfl rfl rfl rfl hl.1 (Nat.le_of_ble_eq_true rfl) dX4_suits_23 ⟨Nat.le_of_ble_eq_true rfl, Nat.le_of_ble_eq_true rfl⟩) ?_
      intro r_9 u_10 H locs h_11 hP hD hS
      have hP : va_P g.1 vwCl [(md 0, .inr (4, [.int (gXt u_6), .int (nI (gMi u_6)), .int (nI (gMo u_6)), .int (nI (gMw u_6)), .ref (md 1), .ref (md 2), .ref (md 3), .int (nI (gNi u_6)), .int (nI (gNo u_6)), .ref (md 4), .ref (md 5), .ref (md 6), .int (nI u_10.1), .ref (md 7), .ref (md 8), .int (nI u_10.2.1), .int (nI u_10.2.2.1), .ref (md 9), .long (u_10.2.2.2.2.2.2.2.1), .long (u_10.2.2.2.2.2.2.2.2), .long (gWt u_6), .long (gWb u_6)])), (md 1, aI g 48 (gLo u_6)), (md 2, aI g 48 (gHi u_6)), (md 3, aZ g 12 (gTr u_6)), (md 4, aI g 48 (gNu u_6)), (md 5, aZ g 12 (gAm u_6)), (md 6, aJ g 13000 u_10.2.2.2.2.2.2.1), (md 7, aJ g 85 u_10.2.2.2.1), (md 8, aJ g 5 u_10.2.2.2.2.2.1), (md 9, aI g 5 (fun j => nI (u_10.2.2.2.2.1 j)))] H := hP.sub [3, 0, 1, 2, 4, 5, 9, 6, 8, 7] rfl
      have hD : va_D A [(md 0, .inr (4, [.int (gXt u_6), .int (nI (gMi u_6)), .int (nI (gMo u_6)), .int (nI (gMw u_6)), .ref (md 1), .ref (md 2), .ref (md 3), .int (nI (gNi u_6)), .int (nI (gNo u_6)), .ref (md 4), .ref (md 5), .ref (md 6), .int (nI u_10.1), .ref (md 7), .ref (md 8), .int (nI u_10.2.1), .int (nI u_10.2.2.1), .ref (md 9), .long (u_10.2.2.2.2.2.2.2.1), .long (u_10.2.2.2.2.2.2.2.2), .long (gWt u_6), .long (gWb u_6)])), (md 1, aI g 48 (gLo u_6)), (md 2, aI g 48 (gHi u_6)), (md 3, aZ g 12 (gTr u_6)), (md 4, aI g 48 (gNu u_6)), (md 5, aZ g 12 (gAm u_6)), (md 6, aJ g 13000 u_10.2.2.2.2.2.2.1), (md 7, aJ g 85 u_10.2.2.2.1), (md 8, aJ g 5 u_10.2.2.2.2.2.1), (md 9, aI g 5 (fun j => nI (u_10.2.2.2.2.1 j)))] := hD.sub [3, 0, 1, 2, 4, 5, 9, 6, 8, 7] rfl rfl
      have h_11 : shQ (gNu u_6) (gAm u_6) (gNi u_6) (gNo u_6) (gMw u_6) v w (gTp u_6) (gBl u_6) r_9 u_10.1 u_10.2.2.2.2.2.2.1 u_10.2.2.2.2.2.2.2.1 u_10.2.2.2.2.2.2.2.2 := h_11
      have hsh := h_11
      rw [hp1, hp2, hp3, hp4, hk3] at hsh
      have hAn : anB (plA x) 0 (gMw x) false = true := anB_of (plA x) (gMw x) 0 w false (Nat.zero_le _) (by omega) (by rw [plA_at hw]; have := hac.2.2.1; rw [wN_n hw31] at this; exact this)
      obtain ⟨hmo9, hr9, ht9, hb9⟩ := shQ_ok hAn hsh
      have hns := mOK_le hmi hmo hmw hmo9
      refine lv_istore (lv' := [(4, .int (r_9)), (0, .ref (md 0)), (1, .int (nI v)), (2, .int (nI w)), (3, .int (ix))]) hx hb dX4_suits_26 hl (by decide) rfl (fun ls hl => ?_)
      refine lv_iload_n hx hb dX4_suits_28 rfl (lv_at hl 4 rfl) ?_
      refine lv_if_lt (tgt := 40) hx hb dX4_suits_29 (by decide) (fun c_12 => ?_) (fun c_12 => ?_)
      · skip
        have hnn : inR ix (u_10.1) = false := decide_eq_false (by rw [i32_l0] at c_12; omega)
        refine lv_iconst (v := -1) hx hb dX4_suits_40 (by decide) ?_
        exact ret dX4_suits_41 ((gXt u_6, gMi u_6, gMo u_6, gMw u_6, gLo u_6, gHi u_6, gTr u_6, gNi u_6, gNo u_6, gNu u_6, gAm u_6, u_10.2.2.2.2.2.2.1, u_10.1, u_10.2.2.2.1, u_10.2.2.2.2.2.1, u_10.2.1, u_10.2.2.1, u_10.2.2.2.2.1, u_10.2.2.2.2.2.2.2.1, u_10.2.2.2.2.2.2.2.2, gWt u_6, gWb u_6)) (⟨hkp, Or.inl ⟨⟨hi02, hac⟩, _, _, _, _, by rw [wN_n hw31, wN_n hv31]; exact ⟨hmo9, ht9, hb9⟩, Or.inl ⟨hnn, rfl⟩⟩⟩) hP hD hS
      · skip
        have h1 := c_12
        rw [i32_l0] at h1
        refine lv_iload_n hx hb dX4_suits_32 rfl (lv_at hl 4 rfl) ?_
        refine lv_aload_n hx hb dX4_suits_33 rfl (lv_at hl 1 rfl) ?_
        refine k_get hx hb hts hown hK hP iw_X4_suits_X4 rfl 0 12 fm_X4_suits_81 (by decide) rfl rfl dX4_suits_34 ?_
        refine lv_icmp_lt (tgt := 42) hx hb dX4_suits_37 (by decide) (fun c_13 => ?_) (fun c_13 => ?_)
        · skip
          have h2 := c_13
          rw [i32_lN (by omega)] at h2
          have hi1 : inR ix (u_10.1) = true := decide_eq_true (by omega)
          obtain ⟨i, hi2, hi31, hii⟩ := inR_nI hi1
          subst hii
          refine lv_aload_n hx hb dX4_suits_42 rfl (lv_at hl 1 rfl) ?_
          refine lv_iload_n hx hb dX4_suits_43 rfl (lv_at hl 4 rfl) ?_
          refine lv_iload_n hx hb dX4_suits_44 rfl (lv_at hl 3 rfl) ?_
          refine go_l (wc := [(md 0, .inr (4, [.int (gXt u_6), .int (nI (gMi u_6)), .int (nI (gMo u_6)), .int (nI (gMw u_6)), .ref (md 1), .ref (md 2), .ref (md 3), .int (nI (gNi u_6)), .int (nI (gNo u_6)), .ref (md 4), .ref (md 5), .ref (md 6), .int (nI u_10.1), .ref (md 7), .ref (md 8), .int (nI u_10.2.1), .int (nI u_10.2.2.1), .ref (md 9), .long (u_10.2.2.2.2.2.2.2.1), .long (u_10.2.2.2.2.2.2.2.2), .long (gWt u_6), .long (gWb u_6)])), (md 4, aI g 48 (gNu u_6)), (md 6, aJ g 13000 u_10.2.2.2.2.2.2.1)]) (wr := [(md 1, aI g 48 (gLo u_6)), (md 2, aI g 48 (gHi u_6)), (md 3, aZ g 12 (gTr u_6)), (md 5, aZ g 12 (gAm u_6)), (md 7, aJ g 85 u_10.2.2.2.1), (md 8, aJ g 5 u_10.2.2.2.2.2.1), (md 9, aI g 5 (fun j => nI (u_10.2.2.2.2.1 j)))]) hP hD hS hA [0, 4, 6] [1, 2, 3, 5, 7, 8, 9] rfl rfl rfl rfl (by decide) (fun hPc hDc => rn_V (As := [.int (nI i), .int (nI w)]) (rest := []) ⟨hx, hb, hml, hown, hts⟩ ((c_X4_inWeighed l g md (gXt u_6) (gMi u_6) (gMo u_6) (gMw u_6) (gNi u_6) (gNo u_6) u_10.1 u_10.2.1 u_10.2.2.1 u_10.2.2.2.2.2.2.2.1 u_10.2.2.2.2.2.2.2.2 (gWt u_6) (gWb u_6) (gNu u_6) u_10.2.2.2.2.2.2.1 i w (by omega) (by omega) (by omega)) _) (cw_X4_suits_128_0_0 hts hN ⟨Nat.le_of_ble_eq_true rfl, Nat.le_of_ble_eq_true rfl⟩) hK hN hPc hDc 0 rfl rfl rfl rfl hl.1 (Nat.le_of_ble_eq_true rfl) dX4_suits_45 ⟨Nat.le_of_ble_eq_true rfl, Nat.le_of_ble_eq_true rfl⟩) ?_
          intro r_14 u_15 H locs h_16 hP hD hS
          have hP : va_P g.1 vwCl [(md 0, .inr (4, [.int (gXt u_6), .int (nI (gMi u_6)), .int (nI (gMo u_6)), .int (nI (gMw u_6)), .ref (md 1), .ref (md 2), .ref (md 3), .int (nI (gNi u_6)), .int (nI (gNo u_6)), .ref (md 4), .ref (md 5), .ref (md 6), .int (nI u_10.1), .ref (md 7), .ref (md 8), .int (nI u_10.2.1), .int (nI u_10.2.2.1), .ref (md 9), .long (u_10.2.2.2.2.2.2.2.1), .long (u_10.2.2.2.2.2.2.2.2), .long (gWt u_6), .long (gWb u_6)])), (md 1, aI g 48 (gLo u_6)), (md 2, aI g 48 (gHi u_6)), (md 3, aZ g 12 (gTr u_6)), (md 4, aI g 48 (gNu u_6)), (md 5, aZ g 12 (gAm u_6)), (md 6, aJ g 13000 u_10.2.2.2.2.2.2.1), (md 7, aJ g 85 u_10.2.2.2.1), (md 8, aJ g 5 u_10.2.2.2.2.2.1), (md 9, aI g 5 (fun j => nI (u_10.2.2.2.2.1 j)))] H := hP.sub [7, 0, 1, 2, 8, 3, 9, 4, 5, 6] rfl
          have hD : va_D A [(md 0, .inr (4, [.int (gXt u_6), .int (nI (gMi u_6)), .int (nI (gMo u_6)), .int (nI (gMw u_6)), .ref (md 1), .ref (md 2), .ref (md 3), .int (nI (gNi u_6)), .int (nI (gNo u_6)), .ref (md 4), .ref (md 5), .ref (md 6), .int (nI u_10.1), .ref (md 7), .ref (md 8), .int (nI u_10.2.1), .int (nI u_10.2.2.1), .ref (md 9), .long (u_10.2.2.2.2.2.2.2.1), .long (u_10.2.2.2.2.2.2.2.2), .long (gWt u_6), .long (gWb u_6)])), (md 1, aI g 48 (gLo u_6)), (md 2, aI g 48 (gHi u_6)), (md 3, aZ g 12 (gTr u_6)), (md 4, aI g 48 (gNu u_6)), (md 5, aZ g 12 (gAm u_6)), (md 6, aJ g 13000 u_10.2.2.2.2.2.2.1), (md 7, aJ g 85 u_10.2.2.2.1), (md 8, aJ g 5 u_10.2.2.2.2.2.1), (md 9, aI g 5 (fun j => nI (u_10.2.2.2.2.1 j)))] := hD.sub [7, 0, 1, 2, 8, 3, 9, 4, 5, 6] rfl rfl
          have h_16 : r_14 = insW u_10.2.2.2.2.2.2.1 (gNu u_6) i w (gNi u_6) := h_16
          subst h_16
          refine lv_lconst (v := 0) hx hb dX4_suits_48 (by decide) ?_
          refine W.lcmp hx hb dX4_suits_49 ?_
          refine lv_if_le (tgt := 66) hx hb dX4_suits_50 (by decide) (fun c_17 => ?_) (fun c_17 => ?_)
          · skip
            have c_17 := (lc_le _ _).mp c_17
            have hle := c_17
            rw [hp1, hp3] at hle
            have hres : bI (decide (0 < insW u_10.2.2.2.2.2.2.1 (plN x) i w (gMi x)) && mbB x u_10.2.2.2.2.2.2.1 i w u_10.2.2.2.2.2.2.2.1 u_10.2.2.2.2.2.2.2.2) = nI 0 := by rw [decide_eq_false (show ¬ 0 < insW u_10.2.2.2.2.2.2.1 (plN x) i w (gMi x) by rw [i64_lt]; rw [i64_le] at hle; omega)]; rfl
            refine lv_iconst (v := nI 0) hx hb dX4_suits_66 (by decide) ?_
            exact ret dX4_suits_67 ((gXt u_6, gMi u_6, gMo u_6, gMw u_6, gLo u_6, gHi u_6, gTr u_6, gNi u_6, gNo u_6, gNu u_6, gAm u_6, u_10.2.2.2.2.2.2.1, u_10.1, u_10.2.2.2.1, u_10.2.2.2.2.2.1, u_10.2.1, u_10.2.2.1, u_10.2.2.2.2.1, u_10.2.2.2.2.2.2.2.1, u_10.2.2.2.2.2.2.2.2, gWt u_6, gWb u_6)) (⟨hkp, Or.inl ⟨⟨hi02, hac⟩, _, _, _, _, by rw [wN_n hw31, wN_n hv31]; exact ⟨hmo9, ht9, hb9⟩, Or.inr ⟨hi1, by rw [wN_n hi31, wN_n hw31]; exact hres.symm⟩⟩⟩) hP hD hS
          · skip
            have c_17 := mt (lc_le _ _).mpr c_17
            have hle := c_17
            rw [hp1, hp3] at hle
            have hgt : decide (0 < insW u_10.2.2.2.2.2.2.1 (plN x) i w (gMi x)) = true := decide_eq_true (by rw [i64_lt]; rw [i64_le] at hle; omega)
            refine lv_aload_n hx hb dX4_suits_53 rfl (lv_at hl 1 rfl) ?_
            refine lv_iload_n hx hb dX4_suits_54 rfl (lv_at hl 4 rfl) ?_
            refine lv_iload_n hx hb dX4_suits_55 rfl (lv_at hl 3 rfl) ?_
            refine go_i (wc := [(md 0, .inr (4, [.int (gXt u_6), .int (nI (gMi u_6)), .int (nI (gMo u_6)), .int (nI (gMw u_6)), .ref (md 1), .ref (md 2), .ref (md 3), .int (nI (gNi u_6)), .int (nI (gNo u_6)), .ref (md 4), .ref (md 5), .ref (md 6), .int (nI u_10.1), .ref (md 7), .ref (md 8), .int (nI u_10.2.1), .int (nI u_10.2.2.1), .ref (md 9), .long (u_10.2.2.2.2.2.2.2.1), .long (u_10.2.2.2.2.2.2.2.2), .long (gWt u_6), .long (gWb u_6)])), (md 4, aI g 48 (gNu u_6)), (md 6, aJ g 13000 u_10.2.2.2.2.2.2.1)]) (wr := [(md 1, aI g 48 (gLo u_6)), (md 2, aI g 48 (gHi u_6)), (md 3, aZ g 12 (gTr u_6)), (md 5, aZ g 12 (gAm u_6)), (md 7, aJ g 85 u_10.2.2.2.1), (md 8, aJ g 5 u_10.2.2.2.2.2.1), (md 9, aI g 5 (fun j => nI (u_10.2.2.2.2.1 j)))]) hP hD hS hA [0, 4, 6] [1, 2, 3, 5, 7, 8, 9] rfl rfl rfl rfl (by decide) (fun hPc hDc => rn_V (As := [.int (nI i), .int (nI w)]) (rest := []) ⟨hx, hb, hml, hown, hts⟩ ((c_X4_isBest l g md (gXt u_6) (gMi u_6) (gMo u_6) (gMw u_6) (gNi u_6) (gNo u_6) u_10.1 u_10.2.1 u_10.2.2.1 u_10.2.2.2.2.2.2.2.1 u_10.2.2.2.2.2.2.2.2 (gWt u_6) (gWb u_6) (gNu u_6) u_10.2.2.2.2.2.2.1 i w (by omega) (by omega) (by omega) (by omega)) _) (cw_X4_suits_167_1_25 hts hN ⟨Nat.le_of_ble_eq_true rfl, Nat.le_of_ble_eq_true rfl⟩) hK hN hPc hDc 0 rfl rfl rfl rfl hl.1 (Nat.le_of_ble_eq_true rfl) dX4_suits_56 ⟨Nat.le_of_ble_eq_true rfl, Nat.le_of_ble_eq_true rfl⟩) ?_
            intro r_18 u_19 H locs h_20 hP hD hS
            have hP : va_P g.1 vwCl [(md 0, .inr (4, [.int (gXt u_6), .int (nI (gMi u_6)), .int (nI (gMo u_6)), .int (nI (gMw u_6)), .ref (md 1), .ref (md 2), .ref (md 3), .int (nI (gNi u_6)), .int (nI (gNo u_6)), .ref (md 4), .ref (md 5), .ref (md 6), .int (nI u_10.1), .ref (md 7), .ref (md 8), .int (nI u_10.2.1), .int (nI u_10.2.2.1), .ref (md 9), .long (u_10.2.2.2.2.2.2.2.1), .long (u_10.2.2.2.2.2.2.2.2), .long (gWt u_6), .long (gWb u_6)])), (md 1, aI g 48 (gLo u_6)), (md 2, aI g 48 (gHi u_6)), (md 3, aZ g 12 (gTr u_6)), (md 4, aI g 48 (gNu u_6)), (md 5, aZ g 12 (gAm u_6)), (md 6, aJ g 13000 u_10.2.2.2.2.2.2.1), (md 7, aJ g 85 u_10.2.2.2.1), (md 8, aJ g 5 u_10.2.2.2.2.2.1), (md 9, aI g 5 (fun j => nI (u_10.2.2.2.2.1 j)))] H := hP.sub [7, 0, 1, 2, 8, 3, 9, 4, 5, 6] rfl
            have hD : va_D A [(md 0, .inr (4, [.int (gXt u_6), .int (nI (gMi u_6)), .int (nI (gMo u_6)), .int (nI (gMw u_6)), .ref (md 1), .ref (md 2), .ref (md 3), .int (nI (gNi u_6)), .int (nI (gNo u_6)), .ref (md 4), .ref (md 5), .ref (md 6), .int (nI u_10.1), .ref (md 7), .ref (md 8), .int (nI u_10.2.1), .int (nI u_10.2.2.1), .ref (md 9), .long (u_10.2.2.2.2.2.2.2.1), .long (u_10.2.2.2.2.2.2.2.2), .long (gWt u_6), .long (gWb u_6)])), (md 1, aI g 48 (gLo u_6)), (md 2, aI g 48 (gHi u_6)), (md 3, aZ g 12 (gTr u_6)), (md 4, aI g 48 (gNu u_6)), (md 5, aZ g 12 (gAm u_6)), (md 6, aJ g 13000 u_10.2.2.2.2.2.2.1), (md 7, aJ g 85 u_10.2.2.2.1), (md 8, aJ g 5 u_10.2.2.2.2.2.1), (md 9, aI g 5 (fun j => nI (u_10.2.2.2.2.1 j)))] := hD.sub [7, 0, 1, 2, 8, 3, 9, 4, 5, 6] rfl rfl
            have h_20 : r_18 = bI (decide (outsW u_10.2.2.2.2.2.2.1 (gNu u_6) i w 4 (gNi u_6) (gNo u_6) * u_10.2.2.2.2.2.2.2.2 = u_10.2.2.2.2.2.2.2.1 * insW u_10.2.2.2.2.2.2.1 (gNu u_6) i w (gNi u_6))) := h_20
            subst h_20
            refine lv_if_eq (tgt := 66) hx hb dX4_suits_59 (by decide) (fun c_21 => ?_) (fun c_21 => ?_)
            · skip
              have hbe := bI_eq0.mp c_21
              rw [hp1, hp2, hp3] at hbe
              have hres : bI (decide (0 < insW u_10.2.2.2.2.2.2.1 (plN x) i w (gMi x)) && mbB x u_10.2.2.2.2.2.2.1 i w u_10.2.2.2.2.2.2.2.1 u_10.2.2.2.2.2.2.2.2) = nI 0 := by rw [hgt, mbB, hbe]; rfl
              refine lv_iconst (v := nI 0) hx hb dX4_suits_66 (by decide) ?_
              exact ret dX4_suits_67 ((gXt u_6, gMi u_6, gMo u_6, gMw u_6, gLo u_6, gHi u_6, gTr u_6, gNi u_6, gNo u_6, gNu u_6, gAm u_6, u_10.2.2.2.2.2.2.1, u_10.1, u_10.2.2.2.1, u_10.2.2.2.2.2.1, u_10.2.1, u_10.2.2.1, u_10.2.2.2.2.1, u_10.2.2.2.2.2.2.2.1, u_10.2.2.2.2.2.2.2.2, gWt u_6, gWb u_6)) (⟨hkp, Or.inl ⟨⟨hi02, hac⟩, _, _, _, _, by rw [wN_n hw31, wN_n hv31]; exact ⟨hmo9, ht9, hb9⟩, Or.inr ⟨hi1, by rw [wN_n hi31, wN_n hw31]; exact hres.symm⟩⟩⟩) hP hD hS
            · skip
              have hbe := bI_ne0.mp c_21
              rw [hp1, hp2, hp3] at hbe
              have hres : bI (decide (0 < insW u_10.2.2.2.2.2.2.1 (plN x) i w (gMi x)) && mbB x u_10.2.2.2.2.2.2.1 i w u_10.2.2.2.2.2.2.2.1 u_10.2.2.2.2.2.2.2.2) = nI 1 := by rw [hgt, mbB, hbe]; rfl
              refine lv_iconst (v := nI 1) hx hb dX4_suits_62 (by decide) ?_
              refine lv_goto (tgt := 67) hx hb dX4_suits_63 (by decide) ?_
              exact ret dX4_suits_67 ((gXt u_6, gMi u_6, gMo u_6, gMw u_6, gLo u_6, gHi u_6, gTr u_6, gNi u_6, gNo u_6, gNu u_6, gAm u_6, u_10.2.2.2.2.2.2.1, u_10.1, u_10.2.2.2.1, u_10.2.2.2.2.2.1, u_10.2.1, u_10.2.2.1, u_10.2.2.2.2.1, u_10.2.2.2.2.2.2.2.1, u_10.2.2.2.2.2.2.2.2, gWt u_6, gWb u_6)) (⟨hkp, Or.inl ⟨⟨hi02, hac⟩, _, _, _, _, by rw [wN_n hw31, wN_n hv31]; exact ⟨hmo9, ht9, hb9⟩, Or.inr ⟨hi1, by rw [wN_n hi31, wN_n hw31]; exact hres.symm⟩⟩⟩) hP hD hS
        · skip
          have hnn : inR ix (u_10.1) = false := decide_eq_false (by rw [i32_lN (by omega)] at c_13; omega)
          refine lv_iconst (v := -1) hx hb dX4_suits_40 (by decide) ?_
          exact ret dX4_suits_41 ((gXt u_6, gMi u_6, gMo u_6, gMw u_6, gLo u_6, gHi u_6, gTr u_6, gNi u_6, gNo u_6, gNu u_6, gAm u_6, u_10.2.2.2.2.2.2.1, u_10.1, u_10.2.2.2.1, u_10.2.2.2.2.2.1, u_10.2.1, u_10.2.2.1, u_10.2.2.2.2.1, u_10.2.2.2.2.2.2.2.1, u_10.2.2.2.2.2.2.2.2, gWt u_6, gWb u_6)) (⟨hkp, Or.inl ⟨⟨hi02, hac⟩, _, _, _, _, by rw [wN_n hw31, wN_n hv31]; exact ⟨hmo9, ht9, hb9⟩, Or.inl ⟨hnn, rfl⟩⟩⟩) hP hD hS
    · skip
      have hno : ¬ (isI vw (nI 0) (nI 2) = true ∧ asC x vw wk) := fun q => asP_0 hask c_8 q.2
      refine lv_iconst (v := -1) hx hb dX4_suits_18 (by decide) ?_
      exact ret dX4_suits_19 ((gXt u_6, gMi u_6, gMo u_6, gMw u_6, gLo u_6, gHi u_6, gTr u_6, gNi u_6, gNo u_6, gNu u_6, gAm u_6, gSd u_6, gNs u_6, gBd u_6, gWy u_6, gNb u_6, gWd u_6, (gCh u_6), gTp u_6, gBl u_6, gWt u_6, gWb u_6)) (⟨hkp, Or.inr ⟨hno, rfl⟩⟩) hP hD hS
