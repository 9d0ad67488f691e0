def msT (nu am : Nat → Int32) (ni no w j : Nat) : Nat → Int64 × Int64 → Bool
  | 0, _ => true
  | n + 1, q => if am j = 0 then msT nu am ni no w (j + 1) n q else if (oneF nu ni no j w q).1 = true ∧ (oneF nu ni no j w q).2.1 = (oneF nu ni no j w q).2.2 ∧ alkB nu j w 0 (ni + no) true = false then false else msT nu am ni no w (j + 1) n (oneF nu ni no j w q).2
def msW (sd : Nat → Int64) (nu : Nat → Int32) (ni no w : Nat) (tp bl : Int64) (k i : Nat) : Nat → Bool → Bool
  | 0, q => q
  | n + 1, q => msW sd nu ni no w tp bl k (i + 1) n (q || (decide (0 < sd (i * 5 + k)) && decide (outsW sd nu i w 4 ni no * bl = tp * insW sd nu i w ni)))
def msK (sd : Nat → Int64) (nu : Nat → Int32) (ni no w : Nat) (tp bl : Int64) (ns k : Nat) : Nat → Bool
  | 0 => true
  | n + 1 => if msW sd nu ni no w tp bl k 0 ns false = true then msK sd nu ni no w tp bl ns (k + 1) n else false
def mstP (x : MS) (v w r : Int32) : Prop := (asC x v w ∧ ((wN v = 3 ∧ ∃ b tp bl, (∃ t0 l0 t1 l1, shW (plN x) (plA x) (gMi x) (gMo x) (gMw x) (wN w) t0 l0 t1 l1 b tp bl) ∧ ((¬ tp = bl ∧ r = 0) ∨ (tp = bl ∧ ∃ q, r = bI (msT (plN x) (plA x) (gMi x) (gMo x) (wN w) 0 (gMw x) q)))) ∨ (wN v ≤ 2 ∧ ∃ ns sd tp bl, mSq x (wN v) (wN w) ns sd tp bl ∧ ((¬ tp = bl ∧ r = 0) ∨ (tp = bl ∧ r = bI (msK sd (plN x) (gMi x) (gMo x) (wN w) tp bl ns 0 (gMi x + gMo x))))))) ∨ (¬ asC x v w ∧ r = -1)
def mpL (sd : Nat → Int64) (nu : Nat → Int32) (ni no w o : Nat) (tp bl : Int64) (i : Nat) : Nat → Bool
  | 0 => true
  | n + 1 => if outsW sd nu i w 4 ni no * bl = tp * insW sd nu i w ni ∧ ¬ outsW sd nu i o 4 ni no = insW sd nu i o ni then false else mpL sd nu ni no w o tp bl (i + 1) n
def mpeC (x : MS) (v w o : Int32) : Prop := asC x v w ∧ inR o (gMw x) = true ∧ ¬ gTr x (wN o) = 0
def mpeP (x : MS) (v w o r : Int32) : Prop := (mpeC x v w o ∧ ((wN v = 3 ∧ ∃ b tp bl, (∃ t0 l0 t1 l1, shW (plN x) (plA x) (gMi x) (gMo x) (gMw x) (wN w) t0 l0 t1 l1 b tp bl) ∧ ∃ q, r = bI ((oneF (plN x) (gMi x) (gMo x) (wN o) (wN w) q).1 && decide ((oneF (plN x) (gMi x) (gMo x) (wN o) (wN w) q).2.1 * bl = tp * (oneF (plN x) (gMi x) (gMo x) (wN o) (wN w) q).2.2))) ∨ (wN v ≤ 2 ∧ ∃ ns sd tp bl, mSq x (wN v) (wN w) ns sd tp bl ∧ r = bI (mpL sd (plN x) (gMi x) (gMo x) (wN w) (wN o) tp bl 0 ns)))) ∨ (¬ mpeC x v w o ∧ r = -1)
theorem cw_X4_strong_154_2_42 {R : Room} {s : State} {args : Array Value} (hts : ∀ w ∈ wsX4_strong, w.before args s = true) (hN : nsW s) (hR : 2 + 1 ≤ R.frames ∧ 8 + (3 + 11) + 42 ≤ R.locals) : CallW R s args RX4 RX4 154 yX4_asks cX4_asks 3 (some .boolean) wsX4_asks { frames := 2, cells := 0, slots := 0, locals := 42 } 0 0 2 := cwV 2 hts gX4_strong_X4_asks rfl rfl rfl ⟨rfl, hdn_X4_asks⟩ hR
theorem cw_X4_strong_157_2_50 {R : Room} {s : State} {args : Array Value} (hts : ∀ w ∈ wsX4_strong, w.before args s = true) (hN : nsW s) (hR : 2 + 1 ≤ R.frames ∧ 8 + (9 + 11) + 50 ≤ R.locals) : CallW R s args RX4 RX4 157 yX4_shares cX4_shares 9 (some .boolean) wsX4_shares { frames := 2, cells := 0, slots := 0, locals := 50 } 0 0 2 := cwV 2 hts gX4_strong_X4_shares rfl rfl rfl ⟨rfl, hdn_X4_shares⟩ hR
theorem iw_X4_strong_X4 : ∀ w ∈ wsX40, w ∈ wsX4_strong := fun w h => List.mem_cons_of_mem _ (List.mem_append_right _ h)
theorem fm_X4_strong_121 : Cond.fieldLink RX4 121 "EdgeBenchModel" "top" "J" ∈ wsX4_strong := List.mem_of_getElem? (i := 1) rfl
theorem fm_X4_strong_125 : Cond.fieldLink RX4 125 "EdgeBenchModel" "below" "J" ∈ wsX4_strong := List.mem_of_getElem? (i := 2) rfl
theorem fm_X4_strong_49 : Cond.fieldLink RX4 49 "EdgeBenchModel" "works" "I" ∈ wsX4_strong := List.mem_of_getElem? (i := 3) rfl
theorem fm_X4_strong_30 : Cond.fieldLink RX4 30 "EdgeBenchModel" "among" "[Z" ∈ wsX4_strong := List.mem_of_getElem? (i := 4) rfl
theorem cw_X4_strong_140_0_0 {R : Room} {s : State} {args : Array Value} (hts : ∀ w ∈ wsX4_strong, w.before args s = true) (hN : nsW s) (hR : 0 + 1 ≤ R.frames ∧ 8 + (8 + 11) + 0 ≤ R.locals) : CallW R s args RX4 RX4 140 yX4_oneFor cX4_oneFor 8 (some .boolean) wsX4_oneFor { frames := 0, cells := 0, slots := 0, locals := 0 } 0 0 2 := cwV 2 hts gX4_strong_X4_oneFor rfl rfl rfl ⟨rfl, hdn_X4_oneFor⟩ hR
theorem fm_X4_strong_134 : Cond.fieldLink RX4 134 "EdgeBenchModel" "wholeTop" "J" ∈ wsX4_strong := List.mem_of_getElem? (i := 5) rfl
theorem fm_X4_strong_137 : Cond.fieldLink RX4 137 "EdgeBenchModel" "wholeBelow" "J" ∈ wsX4_strong := List.mem_of_getElem? (i := 6) rfl
theorem hdn_X4_isAlike : yX4_isAlike.cls ≠ "java/lang/invoke/MethodHandle" ∧ yX4_isAlike.cls ≠ "java/lang/invoke/VarHandle" ∧ (parseMethodDescriptor yX4_isAlike.desc).map (fun d => d.parameters.length) = some 2 := by decide +kernel
theorem cw_X4_strong_164_0_0 {R : Room} {s : State} {args : Array Value} (hts : ∀ w ∈ wsX4_strong, w.before args s = true) (hN : nsW s) (hR : 0 + 1 ≤ R.frames ∧ 8 + (5 + 11) + 0 ≤ R.locals) : CallW R s args RX4 RX4 164 yX4_isAlike cX4_isAlike 5 (some .boolean) wsX4_isAlike { frames := 0, cells := 0, slots := 0, locals := 0 } 0 0 2 := cwV 2 hts gX4_strong_X4_isAlike rfl rfl rfl ⟨rfl, hdn_X4_isAlike⟩ hR
theorem cw_X4_strong_157_12_299 {R : Room} {s : State} {args : Array Value} (hts : ∀ w ∈ wsX4_strong, w.before args s = true) (hN : nsW s) (hR : 12 + 1 ≤ R.frames ∧ 8 + (9 + 11) + 299 ≤ R.locals) : CallW R s args RX4 RX4 157 yX4_shares cX4_shares 9 (some .boolean) wsX4_shares { frames := 12, cells := 0, slots := 0, locals := 299 } 0 0 2 := cwV 2 hts gX4_strong_X4_shares rfl rfl rfl ⟨rfl, hdn_X4_shares⟩ hR
theorem fm_X4_strong_64 : Cond.fieldLink RX4 64 "EdgeBenchModel" "nIn" "I" ∈ wsX4_strong := List.mem_of_getElem? (i := 7) rfl
theorem fm_X4_strong_67 : Cond.fieldLink RX4 67 "EdgeBenchModel" "nOut" "I" ∈ wsX4_strong := List.mem_of_getElem? (i := 8) rfl
theorem fm_X4_strong_81 : Cond.fieldLink RX4 81 "EdgeBenchModel" "sides" "I" ∈ wsX4_strong := List.mem_of_getElem? (i := 9) rfl
theorem fm_X4_strong_33 : Cond.fieldLink RX4 33 "EdgeBenchModel" "side" "[J" ∈ wsX4_strong := List.mem_of_getElem? (i := 10) rfl
theorem cw_X4_strong_167_1_25 {R : Room} {s : State} {args : Array Value} (hts : ∀ w ∈ wsX4_strong, w.before args s = true) (hN : nsW s) (hR : 1 + 1 ≤ R.frames ∧ 8 + (3 + 11) + 25 ≤ R.locals) : CallW R s args RX4 RX4 167 yX4_isBest cX4_isBest 3 (some .boolean) wsX4_isBest { frames := 1, cells := 0, slots := 0, locals := 25 } 0 0 2 := cwV 2 hts gX4_strong_X4_isBest rfl rfl rfl ⟨rfl, hdn_X4_isBest⟩ hR
set_option maxHeartbeats 20000000 in
set_option maxRecDepth 100000 in
theorem c_X4_strong (l : Launch) (g : Gt) (md : Nat → Nat) (x : MS) (vw : Int32) (wk : Int32) (hmb : mBen x) : CI l yX4_strong wsX4_strong { frames := 13, cells := 0, slots := 0, locals := 327 } g [.ref (md 0), .int (vw), .int (wk)] [(md 0, .inr (4, [.int (gXt x), .int (nI (gMi x)), .int (nI (gMo x)), .int (nI (gMw x)), .ref (md 1), .ref (md 2), .ref (md 3), .int (nI (gNi x)), .int (nI (gNo x)), .ref (md 4), .ref (md 5), .ref (md 6), .int (nI (gNs x)), .ref (md 7), .ref (md 8), .int (nI (gNb x)), .int (nI (gWd x)), .ref (md 9), .long (gTp x), .long (gBl x), .long (gWt x), .long (gWb x)])), (md 1, aI g 48 (gLo x)), (md 2, aI g 48 (gHi x)), (md 3, aZ g 12 (gTr x)), (md 4, aI g 48 (gNu x)), (md 5, aZ g 12 (gAm x)), (md 6, aJ g 13000 (gSd x)), (md 7, aJ g 85 (gBd x)), (md 8, aJ g 5 (gWy x)), (md 9, aI g 5 (fun j => nI ((gCh x) j)))] (fun zr (zu : MS) => mKeep x zu ∧ mstP x vw wk zr) (fun (zu : MS) => [(md 0, .inr (4, [.int (gXt zu), .int (nI (gMi zu)), .int (nI (gMo zu)), .int (nI (gMw zu)), .ref (md 1), .ref (md 2), .ref (md 3), .int (nI (gNi zu)), .int (nI (gNo zu)), .ref (md 4), .ref (md 5), .ref (md 6), .int (nI (gNs zu)), .ref (md 7), .ref (md 8), .int (nI (gNb zu)), .int (nI (gWd zu)), .ref (md 9), .long (gTp zu), .long (gBl zu), .long (gWt zu), .long (gWb zu)])), (md 1, aI g 48 (gLo zu)), (md 2, aI g 48 (gHi zu)), (md 3, aZ g 12 (gTr zu)), (md 4, aI g 48 (gNu zu)), (md 5, aZ g 12 (gAm zu)), (md 6, aJ g 13000 (gSd zu)), (md 7, aJ g 85 (gBd zu)), (md 8, aJ g 5 (gWy zu)), (md 9, aI g 5 (fun j => nI ((gCh zu) j)))]) 0 0 := by
  refine ent_i (cc := cX4_strong) (maxL := 7) (by decide) rfl (Nat.le_of_ble_eq_true rfl) ?_
  intro p e s m below meth c A args Q hE ret ls hl
  obtain ⟨hx, hb, hml, hown, hts, hnm, hA, hP, hD, hK, hN⟩ := hE
  have hS : va_S A s.heap s.heap [] := va_S.rf
  have hl : lv_has ls 7 [(0, .ref (md 0)), (1, .int (vw)), (2, .int (wk))] := hl
  have hP : va_P g.1 vwCl [(md 0, .inr (4, [.int (gXt x), .int (nI (gMi x)), .int (nI (gMo x)), .int (nI (gMw x)), .ref (md 1), .ref (md 2), .ref (md 3), .int (nI (gNi x)), .int (nI (gNo x)), .ref (md 4), .ref (md 5), .ref (md 6), .int (nI (gNs x)), .ref (md 7), .ref (md 8), .int (nI (gNb x)), .int (nI (gWd x)), .ref (md 9), .long (gTp x), .long (gBl x), .long (gWt x), .long (gWb x)])), (md 1, aI g 48 (gLo x)), (md 2, aI g 48 (gHi x)), (md 3, aZ g 12 (gTr x)), (md 4, aI g 48 (gNu x)), (md 5, aZ g 12 (gAm x)), (md 6, aJ g 13000 (gSd x)), (md 7, aJ g 85 (gBd x)), (md 8, aJ g 5 (gWy x)), (md 9, aI g 5 (fun j => nI ((gCh x) j)))] s.heap := hP
  obtain ⟨⟨hmi1, hmi⟩, ⟨hmo1, hmo⟩, hmw, htr⟩ := id hmb
  refine lv_aload_n hx hb dX4_strong_0 rfl (lv_at hl 0 rfl) ?_
  refine lv_iload_n hx hb dX4_strong_1 rfl (lv_at hl 1 rfl) ?_
  refine lv_iload_n hx hb dX4_strong_2 rfl (lv_at hl 2 rfl) ?_
  refine go_i (wc := [(md 0, .inr (4, [.int (gXt x), .int (nI (gMi x)), .int (nI (gMo x)), .int (nI (gMw x)), .ref (md 1), .ref (md 2), .ref (md 3), .int (nI (gNi x)), .int (nI (gNo x)), .ref (md 4), .ref (md 5), .ref (md 6), .int (nI (gNs x)), .ref (md 7), .ref (md 8), .int (nI (gNb x)), .int (nI (gWd x)), .ref (md 9), .long (gTp x), .long (gBl x), .long (gWt x), .long (gWb x)])), (md 1, aI g 48 (gLo x)), (md 2, aI g 48 (gHi x)), (md 3, aZ g 12 (gTr x)), (md 4, aI g 48 (gNu x)), (md 5, aZ g 12 (gAm x)), (md 6, aJ g 13000 (gSd x)), (md 7, aJ g 85 (gBd x)), (md 8, aJ g 5 (gWy x)), (md 9, aI g 5 (fun j => nI ((gCh x) j)))]) (wr := []) hP hD hS hA [0, 1, 2, 3, 4, 5, 6, 7, 8, 9] [] rfl rfl rfl rfl (by decide) (fun hPc hDc => rn_V (As := [.int (vw), .int (wk)]) (rest := []) ⟨hx, hb, hml, hown, hts⟩ ((c_X4_asks l g md x vw wk hmb) _) (cw_X4_strong_154_2_42 hts hN ⟨Nat.le_of_ble_eq_true rfl, Nat.le_of_ble_eq_true rfl⟩) hK hN hPc hDc 0 rfl rfl rfl rfl hl.1 (Nat.le_of_ble_eq_true rfl) dX4_strong_3 ⟨Nat.le_of_ble_eq_true rfl, Nat.le_of_ble_eq_true rfl⟩) ?_
  intro r_1 u_2 H locs h_3 hP hD hS
  have hP : va_P g.1 vwCl [(md 0, .inr (4, [.int (gXt u_2), .int (nI (gMi u_2)), .int (nI (gMo u_2)), .int (nI (gMw u_2)), .ref (md 1), .ref (md 2), .ref (md 3), .int (nI (gNi u_2)), .int (nI (gNo u_2)), .ref (md 4), .ref (md 5), .ref (md 6), .int (nI (gNs u_2)), .ref (md 7), .ref (md 8), .int (nI (gNb u_2)), .int (nI (gWd u_2)), .ref (md 9), .long (gTp u_2), .long (gBl u_2), .long (gWt u_2), .long (gWb u_2)])), (md 1, aI g 48 (gLo u_2)), (md 2, aI g 48 (gHi u_2)), (md 3, aZ g 12 (gTr u_2)), (md 4, aI g 48 (gNu u_2)), (md 5, aZ g 12 (gAm u_2)), (md 6, aJ g 13000 (gSd u_2)), (md 7, aJ g 85 (gBd u_2)), (md 8, aJ g 5 (gWy u_2)), (md 9, aI g 5 (fun j => nI ((gCh u_2) j)))] H := hP.sub [0, 1, 2, 3, 4, 5, 6, 7, 8, 9] rfl
  have hD : va_D A [(md 0, .inr (4, [.int (gXt u_2), .int (nI (gMi u_2)), .int (nI (gMo u_2)), .int (nI (gMw u_2)), .ref (md 1), .ref (md 2), .ref (md 3), .int (nI (gNi u_2)), .int (nI (gNo u_2)), .ref (md 4), .ref (md 5), .ref (md 6), .int (nI (gNs u_2)), .ref (md 7), .ref (md 8), .int (nI (gNb u_2)), .int (nI (gWd u_2)), .ref (md 9), .long (gTp u_2), .long (gBl u_2), .long (gWt u_2), .long (gWb u_2)])), (md 1, aI g 48 (gLo u_2)), (md 2, aI g 48 (gHi u_2)), (md 3, aZ g 12 (gTr u_2)), (md 4, aI g 48 (gNu u_2)), (md 5, aZ g 12 (gAm u_2)), (md 6, aJ g 13000 (gSd u_2)), (md 7, aJ g 85 (gBd u_2)), (md 8, aJ g 5 (gWy u_2)), (md 9, aI g 5 (fun j => nI ((gCh u_2) j)))] := hD.sub [0, 1, 2, 3, 4, 5, 6, 7, 8, 9] rfl rfl
  have h_3 : mKeep x u_2 ∧ asP x u_2 vw wk r_1 := h_3
  obtain ⟨hkp, hask⟩ := h_3
  obtain ⟨hk1, hk2, hk3, hk4, hk5, hk6⟩ := id hkp
  refine lv_if_ne (tgt := 11) hx hb dX4_strong_6 (by decide) (fun c_4 => ?_) (fun c_4 => ?_)
  · skip
    obtain ⟨hac, hp1, hp2, hp3, hp4⟩ := asP_1 hask c_4
    obtain ⟨v, hvv, hv0, hv3, hv31⟩ := isI_get (by decide) (by decide) hac.1
    obtain ⟨w, hw, hw31, hww⟩ := inR_nI hac.2.1
    subst hvv
    subst hww
    have hwm : w < 12 := by omega
    rcases (show v = 3 ∨ v ≤ 2 by omega) with rfl | hv2
    · skip
      refine lv_aload_n hx hb dX4_strong_11 rfl (lv_at hl 0 rfl) ?_
      refine lv_iload_n hx hb dX4_strong_12 rfl (lv_at hl 1 rfl) ?_
      refine lv_iload_n hx hb dX4_strong_13 rfl (lv_at hl 2 rfl) ?_
      refine go_i (wc := [(md 0, .inr (4, [.int (gXt u_2), .int (nI (gMi u_2)), .int (nI (gMo u_2)), .int (nI (gMw u_2)), .ref (md 1), .ref (md 2), .ref (md 3), .int (nI (gNi u_2)), .int (nI (gNo u_2)), .ref (md 4), .ref (md 5), .ref (md 6), .int (nI (gNs u_2)), .ref (md 7), .ref (md 8), .int (nI (gNb u_2)), .int (nI (gWd u_2)), .ref (md 9), .long (gTp u_2), .long (gBl u_2), .long (gWt u_2), .long (gWb u_2)])), (md 4, aI g 48 (gNu u_2)), (md 5, aZ g 12 (gAm u_2))]) (wr := [(md 1, aI g 48 (gLo u_2)), (md 2, aI g 48 (gHi u_2)), (md 3, aZ g 12 (gTr u_2)), (md 6, aJ g 13000 (gSd u_2)), (md 7, aJ g 85 (gBd u_2)), (md 8, aJ g 5 (gWy u_2)), (md 9, aI g 5 (fun j => nI ((gCh u_2) j)))]) hP hD hS hA [0, 4, 5] [1, 2, 3, 6, 7, 8, 9] rfl rfl rfl rfl (by decide) (fun hPc hDc => rn_V (As := [.int (nI 3), .int (nI w)]) (rest := []) ⟨hx, hb, hml, hown, hts⟩ ((c_X4_shares3 l g md (gXt u_2) (gMi u_2) (gMo u_2) (gMw u_2) (gNi u_2) (gNo u_2) (gNs u_2) (gNb u_2) (gWd u_2) (gTp u_2) (gBl u_2) (gWt u_2) (gWb u_2) (gNu u_2) (gAm u_2) w (by omega) (by omega) (by omega) (by omega)) _) (cw_X4_strong_157_2_50 hts hN ⟨Nat.le_of_ble_eq_true rfl, Nat.le_of_ble_eq_true rfl⟩) hK hN hPc hDc 0 rfl rfl rfl rfl hl.1 (Nat.le_of_ble_eq_true rfl) dX4_strong_14 ⟨Nat.le_of_ble_eq_true rfl, Nat.le_of_ble_eq_true rfl⟩) ?_
      intro r_5 u_6 H locs h_7 hP hD hS
      have hP : va_P g.1 vwCl [(md 0, .inr (4, [.int (gXt u_2), .int (nI (gMi u_2)), .int (nI (gMo u_2)), .int (nI (gMw u_2)), .ref (md 1), .ref (md 2), .ref (md 3), .int (nI (gNi u_2)), .int (nI (gNo u_2)), .ref (md 4), .ref (md 5), .ref (md 6), .int (nI (gNs u_2)), .ref (md 7), .ref (md 8), .int (nI (gNb u_2)), .int (nI (gWd u_2)), .ref (md 9), .long (u_6.1), .long (u_6.2.1), .long (u_6.2.2.1), .long (u_6.2.2.2)])), (md 1, aI g 48 (gLo u_2)), (md 2, aI g 48 (gHi u_2)), (md 3, aZ g 12 (gTr u_2)), (md 4, aI g 48 (gNu u_2)), (md 5, aZ g 12 (gAm u_2)), (md 6, aJ g 13000 (gSd u_2)), (md 7, aJ g 85 (gBd u_2)), (md 8, aJ g 5 (gWy u_2)), (md 9, aI g 5 (fun j => nI ((gCh u_2) j)))] H := hP.sub [7, 0, 1, 2, 8, 9, 3, 4, 5, 6] rfl
      have hD : va_D A [(md 0, .inr (4, [.int (gXt u_2), .int (nI (gMi u_2)), .int (nI (gMo u_2)), .int (nI (gMw u_2)), .ref (md 1), .ref (md 2), .ref (md 3), .int (nI (gNi u_2)), .int (nI (gNo u_2)), .ref (md 4), .ref (md 5), .ref (md 6), .int (nI (gNs u_2)), .ref (md 7), .ref (md 8), .int (nI (gNb u_2)), .int (nI (gWd u_2)), .ref (md 9), .long (u_6.1), .long (u_6.2.1), .long (u_6.2.2.1), .long (u_6.2.2.2)])), (md 1, aI g 48 (gLo u_2)), (md 2, aI g 48 (gHi u_2)), (md 3, aZ g 12 (gTr u_2)), (md 4, aI g 48 (gNu u_2)), (md 5, aZ g 12 (gAm u_2)), (md 6, aJ g 13000 (gSd u_2)), (md 7, aJ g 85 (gBd u_2)), (md 8, aJ g 5 (gWy u_2)), (md 9, aI g 5 (fun j => nI ((gCh u_2) j)))] := hD.sub [7, 0, 1, 2, 8, 9, 3, 4, 5, 6] rfl rfl
      have h_7 : shW (gNu u_2) (gAm u_2) (gNi u_2) (gNo u_2) (gMw u_2) w (gTp u_2) (gBl u_2) (gWt u_2) (gWb u_2) r_5 u_6.1 u_6.2.1 := h_7
      have hsh := h_7
      rw [hp1, hp2, hp3, hp4, hk3] at hsh
      refine lv_istore_n (lv' := [(3, .int (r_5)), (0, .ref (md 0)), (1, .int (nI 3)), (2, .int (nI w))]) hx hb dX4_strong_17 rfl hl (by decide) rfl (fun ls hl => ?_)
      refine lv_aload_n hx hb dX4_strong_18 rfl (lv_at hl 1 rfl) ?_
      refine k_get hx hb hts hown hK hP iw_X4_strong_X4 rfl 0 18 fm_X4_strong_121 (by decide) rfl rfl dX4_strong_19 ?_
      refine lv_aload_n hx hb dX4_strong_22 rfl (lv_at hl 1 rfl) ?_
      refine k_get hx hb hts hown hK hP iw_X4_strong_X4 rfl 0 19 fm_X4_strong_125 (by decide) rfl rfl dX4_strong_23 ?_
      refine W.lcmp hx hb dX4_strong_26 ?_
      refine lv_if_eq (tgt := 32) hx hb dX4_strong_27 (by decide) (fun c_8 => ?_) (fun c_8 => ?_)
      · skip
        have c_8 := (lc_eq _ _).mp c_8
        have hte := c_8
        refine lv_iload_n hx hb dX4_strong_32 rfl (lv_at hl 2 rfl) ?_
        refine lv_iconst (v := nI 3) hx hb dX4_strong_33 (by decide) ?_
        refine lv_icmp_ne (tgt := 101) hx hb dX4_strong_34 (by decide) (fun c_9 => ?_) (fun c_9 => ?_)
        · skip
          have c_9 := mt (nI_eq (by omega) (by omega)).mpr c_9
          omega
        · skip
          have c_9 := (nI_eq (by omega) (by omega)).mp c_9
          refine lv_iconst (v := nI 0) hx hb dX4_strong_37 (by decide) ?_
          refine lv_istore (lv' := [(4, .int (nI 0)), (3, .int (r_5)), (0, .ref (md 0)), (1, .int (nI 3)), (2, .int (nI w))]) hx hb dX4_strong_38 hl (by decide) rfl (fun ls hl => ?_)
          have lp_40 : ∀ (n : Nat) (j : Nat) (c9 : Int64) (d9 : Int64), gMw x - j < n → j ≤ gMw x → msT (plN x) (plA x) (gMi x) (gMo x) w 0 (gMw x) (u_6.2.2.1, u_6.2.2.2) = msT (plN x) (plA x) (gMi x) (gMo x) w j (gMw x - j) (c9, d9) → ∀ (H : Heap) (locs : List Loc), va_P g.1 vwCl [(md 0, .inr (4, [.int (gXt u_2), .int (nI (gMi u_2)), .int (nI (gMo u_2)), .int (nI (gMw u_2)), .ref (md 1), .ref (md 2), .ref (md 3), .int (nI (gNi u_2)), .int (nI (gNo u_2)), .ref (md 4), .ref (md 5), .ref (md 6), .int (nI (gNs u_2)), .ref (md 7), .ref (md 8), .int (nI (gNb u_2)), .int (nI (gWd u_2)), .ref (md 9), .long (u_6.1), .long (u_6.2.1), .long (c9), .long (d9)])), (md 1, aI g 48 (gLo u_2)), (md 2, aI g 48 (gHi u_2)), (md 3, aZ g 12 (gTr u_2)), (md 4, aI g 48 (gNu u_2)), (md 5, aZ g 12 (gAm u_2)), (md 6, aJ g 13000 (gSd u_2)), (md 7, aJ g 85 (gBd u_2)), (md 8, aJ g 5 (gWy u_2)), (md 9, aI g 5 (fun j => nI ((gCh u_2) j)))] H → va_D A [(md 0, .inr (4, [.int (gXt u_2), .int (nI (gMi u_2)), .int (nI (gMo u_2)), .int (nI (gMw u_2)), .ref (md 1), .ref (md 2), .ref (md 3), .int (nI (gNi u_2)), .int (nI (gNo u_2)), .ref (md 4), .ref (md 5), .ref (md 6), .int (nI (gNs u_2)), .ref (md 7), .ref (md 8), .int (nI (gNb u_2)), .int (nI (gWd u_2)), .ref (md 9), .long (u_6.1), .long (u_6.2.1), .long (c9), .long (d9)])), (md 1, aI g 48 (gLo u_2)), (md 2, aI g 48 (gHi u_2)), (md 3, aZ g 12 (gTr u_2)), (md 4, aI g 48 (gNu u_2)), (md 5, aZ g 12 (gAm u_2)), (md 6, aJ g 13000 (gSd u_2)), (md 7, aJ g 85 (gBd u_2)), (md 8, aJ g 5 (gWy u_2)), (md 9, aI g 5 (fun j => nI ((gCh u_2) j)))] → va_S A s.heap H locs → ∀ ls : Array Slot, lv_has ls 7 [(0, .ref (md 0)), (1, .int (nI 3)), (2, .int (nI w)), (4, .int (nI j))] → W p l e { frames := 13, cells := 0, slots := 0, locals := 327 } s m args below meth c H locs 0 0 Q (F0 m 40 ls []) := by
            intro n
            induction n with
            | zero =>
              intro j c9 d9 hms
              omega
            | succ n ih_40 =>
              intro j c9 d9 hms_40 hj hv H locs hP hD hS ls hl
              refine lv_iload hx hb dX4_strong_40 (lv_at hl 3 rfl) ?_
              refine lv_aload_n hx hb dX4_strong_42 rfl (lv_at hl 0 rfl) ?_
              refine k_get hx hb hts hown hK hP iw_X4_strong_X4 rfl 0 3 fm_X4_strong_49 (by decide) rfl rfl dX4_strong_43 ?_
              refine lv_icmp_ge (tgt := 99) hx hb dX4_strong_46 (by decide) (fun c_10 => ?_) (fun c_10 => ?_)
              · skip
                have c_10 := (nI_leI (by omega) (by omega)).mp c_10
                have hres : msT (plN x) (plA x) (gMi x) (gMo x) w 0 (gMw x) (u_6.2.2.1, u_6.2.2.2) = true := by rw [hv, show gMw x - j = 0 by omega]; rfl
                refine lv_iconst (v := nI 1) hx hb dX4_strong_99 (by decide) ?_
                exact ret dX4_strong_100 ((gXt u_2, gMi u_2, gMo u_2, gMw u_2, gLo u_2, gHi u_2, gTr u_2, gNi u_2, gNo u_2, gNu u_2, gAm u_2, gSd u_2, gNs u_2, gBd u_2, gWy u_2, gNb u_2, gWd u_2, (gCh u_2), u_6.1, u_6.2.1, c9, d9)) (⟨hkp, Or.inl ⟨hac, Or.inl ⟨wN_n (by decide), _, _, _, ⟨_, _, _, _, by rw [wN_n hw31]; exact hsh⟩, Or.inr ⟨hte, (u_6.2.2.1, u_6.2.2.2), by rw [wN_n hw31, hres]; rfl⟩⟩⟩⟩) hP hD hS
              · skip
                have c_10 := mt (nI_leI (by omega) (by omega)).mpr c_10
                refine lv_aload_n hx hb dX4_strong_49 rfl (lv_at hl 0 rfl) ?_
                refine k_get hx hb hts hown hK hP iw_X4_strong_X4 rfl 0 10 fm_X4_strong_30 (by decide) rfl rfl dX4_strong_50 ?_
                refine lv_iload hx hb dX4_strong_53 (lv_at hl 3 rfl) ?_
                refine k_zald hx hb hK hP 5 rfl (by omega) (by omega) dX4_strong_55 ?_
                refine lv_if_eq (tgt := 93) hx hb dX4_strong_56 (by decide) (fun c_11 => ?_) (fun c_11 => ?_)
                · skip
                  have hv2 : msT (plN x) (plA x) (gMi x) (gMo x) w 0 (gMw x) (u_6.2.2.1, u_6.2.2.2) = msT (plN x) (plA x) (gMi x) (gMo x) w (j + 1) (gMw x - (j + 1)) (c9, d9) := by rw [hv, show gMw x - j = (gMw x - (j + 1)) + 1 by omega, msT, if_pos (by rw [← hp4]; exact c_11)]
                  refine lv_iinc (v := nI (j + 1)) (lv' := [(4, .int (nI (j + 1))), (0, .ref (md 0)), (1, .int (nI 3)), (2, .int (nI w))]) hx hb dX4_strong_93 hl (k := 3) rfl (nI_inc1 j) (by decide) rfl (fun ls hl => ?_)
                  refine lv_goto (tgt := 40) hx hb dX4_strong_96 (by decide) ?_
                  exact ih_40 (j + 1) c9 d9 (by omega) (by omega) hv2 _ _ hP hD hS ls (lv_sub hl [1, 2, 3, 0] rfl)
                · skip
                  have ham : ¬ plA x j = 0 := by rw [← hp4]; exact c_11
                  refine lv_aload_n hx hb dX4_strong_59 rfl (lv_at hl 0 rfl) ?_
                  refine lv_iload hx hb dX4_strong_60 (lv_at hl 3 rfl) ?_
                  refine lv_iload_n hx hb dX4_strong_62 rfl (lv_at hl 2 rfl) ?_
                  refine go_i (wc := [(md 0, .inr (4, [.int (gXt u_2), .int (nI (gMi u_2)), .int (nI (gMo u_2)), .int (nI (gMw u_2)), .ref (md 1), .ref (md 2), .ref (md 3), .int (nI (gNi u_2)), .int (nI (gNo u_2)), .ref (md 4), .ref (md 5), .ref (md 6), .int (nI (gNs u_2)), .ref (md 7), .ref (md 8), .int (nI (gNb u_2)), .int (nI (gWd u_2)), .ref (md 9), .long (u_6.1), .long (u_6.2.1), .long (c9), .long (d9)])), (md 4, aI g 48 (gNu u_2))]) (wr := [(md 1, aI g 48 (gLo u_2)), (md 2, aI g 48 (gHi u_2)), (md 3, aZ g 12 (gTr u_2)), (md 5, aZ g 12 (gAm u_2)), (md 6, aJ g 13000 (gSd u_2)), (md 7, aJ g 85 (gBd u_2)), (md 8, aJ g 5 (gWy u_2)), (md 9, aI g 5 (fun j => nI ((gCh u_2) j)))]) hP hD hS hA [0, 4] [1, 2, 3, 5, 6, 7, 8, 9] rfl rfl rfl rfl (by decide) (fun hPc hDc => rn_V (As := [.int (nI j), .int (nI w)]) (rest := []) ⟨hx, hb, hml, hown, hts⟩ ((c_X4_oneFor l g md (gXt u_2) (gMi u_2) (gMo u_2) (gMw u_2) (gNi u_2) (gNo u_2) (gNs u_2) (gNb u_2) (gWd u_2) u_6.1 u_6.2.1 c9 d9 (gNu u_2) j w (by omega) (by omega) (by omega) (by omega)) _) (cw_X4_strong_140_0_0 hts hN ⟨Nat.le_of_ble_eq_true rfl, Nat.le_of_ble_eq_true rfl⟩) hK hN hPc hDc 0 rfl rfl rfl rfl hl.1 (Nat.le_of_ble_eq_true rfl) dX4_strong_63 ⟨Nat.le_of_ble_eq_true rfl, Nat.le_of_ble_eq_true rfl⟩) ?_
                  intro r_12 u_13 H locs h_14 hP hD hS
                  have hP : va_P g.1 vwCl [(md 0, .inr (4, [.int (gXt u_2), .int (nI (gMi u_2)), .int (nI (gMo u_2)), .int (nI (gMw u_2)), .ref (md 1), .ref (md 2), .ref (md 3), .int (nI (gNi u_2)), .int (nI (gNo u_2)), .ref (md 4), .ref (md 5), .ref (md 6), .int (nI (gNs u_2)), .ref (md 7), .ref (md 8), .int (nI (gNb u_2)), .int (nI (gWd u_2)), .ref (md 9), .long (u_6.1), .long (u_6.2.1), .long ((oneF (gNu u_2) (gNi u_2) (gNo u_2) j w (c9, d9)).2.1), .long ((oneF (gNu u_2) (gNi u_2) (gNo u_2) j w (c9, d9)).2.2)])), (md 1, aI g 48 (gLo u_2)), (md 2, aI g 48 (gHi u_2)), (md 3, aZ g 12 (gTr u_2)), (md 4, aI g 48 (gNu u_2)), (md 5, aZ g 12 (gAm u_2)), (md 6, aJ g 13000 (gSd u_2)), (md 7, aJ g 85 (gBd u_2)), (md 8, aJ g 5 (gWy u_2)), (md 9, aI g 5 (fun j => nI ((gCh u_2) j)))] H := hP.sub [8, 0, 1, 2, 9, 3, 4, 5, 6, 7] rfl
                  have hD : va_D A [(md 0, .inr (4, [.int (gXt u_2), .int (nI (gMi u_2)), .int (nI (gMo u_2)), .int (nI (gMw u_2)), .ref (md 1), .ref (md 2), .ref (md 3), .int (nI (gNi u_2)), .int (nI (gNo u_2)), .ref (md 4), .ref (md 5), .ref (md 6), .int (nI (gNs u_2)), .ref (md 7), .ref (md 8), .int (nI (gNb u_2)), .int (nI (gWd u_2)), .ref (md 9), .long (u_6.1), .long (u_6.2.1), .long ((oneF (gNu u_2) (gNi u_2) (gNo u_2) j w (c9, d9)).2.1), .long ((oneF (gNu u_2) (gNi u_2) (gNo u_2) j w (c9, d9)).2.2)])), (md 1, aI g 48 (gLo u_2)), (md 2, aI g 48 (gHi u_2)), (md 3, aZ g 12 (gTr u_2)), (md 4, aI g 48 (gNu u_2)), (md 5, aZ g 12 (gAm u_2)), (md 6, aJ g 13000 (gSd u_2)), (md 7, aJ g 85 (gBd u_2)), (md 8, aJ g 5 (gWy u_2)), (md 9, aI g 5 (fun j => nI ((gCh u_2) j)))] := hD.sub [8, 0, 1, 2, 9, 3, 4, 5, 6, 7] rfl rfl
                  have h_14 : r_12 = bI (oneF (gNu u_2) (gNi u_2) (gNo u_2) j w (c9, d9)).1 := h_14
                  subst h_14
                  refine lv_if_eq (tgt := 93) hx hb dX4_strong_66 (by decide) (fun c_15 => ?_) (fun c_15 => ?_)
                  · skip
                    have heq : oneF (gNu u_2) (gNi u_2) (gNo u_2) j w (c9, d9) = oneF (plN x) (gMi x) (gMo x) j w (c9, d9) := by rw [hp1, hp2, hp3]
                    have hoo := bI_eq0.mp c_15
                    rw [heq] at hoo
                    have hv2 : msT (plN x) (plA x) (gMi x) (gMo x) w 0 (gMw x) (u_6.2.2.1, u_6.2.2.2) = msT (plN x) (plA x) (gMi x) (gMo x) w (j + 1) (gMw x - (j + 1)) ((oneF (gNu u_2) (gNi u_2) (gNo u_2) j w (c9, d9)).2.1, (oneF (gNu u_2) (gNi u_2) (gNo u_2) j w (c9, d9)).2.2) := by rw [hv, show gMw x - j = (gMw x - (j + 1)) + 1 by omega, msT, if_neg ham, if_neg (fun z => by rw [hoo] at z; exact absurd z.1 (by decide)), heq]
                    refine lv_iinc (v := nI (j + 1)) (lv' := [(4, .int (nI (j + 1))), (0, .ref (md 0)), (1, .int (nI 3)), (2, .int (nI w))]) hx hb dX4_strong_93 hl (k := 3) rfl (nI_inc1 j) (by decide) rfl (fun ls hl => ?_)
                    refine lv_goto (tgt := 40) hx hb dX4_strong_96 (by decide) ?_
                    exact ih_40 (j + 1) ((oneF (gNu u_2) (gNi u_2) (gNo u_2) j w (c9, d9)).2.1) ((oneF (gNu u_2) (gNi u_2) (gNo u_2) j w (c9, d9)).2.2) (by omega) (by omega) hv2 _ _ hP hD hS ls (lv_sub hl [1, 2, 3, 0] rfl)
                  · skip
                    have heq : oneF (gNu u_2) (gNi u_2) (gNo u_2) j w (c9, d9) = oneF (plN x) (gMi x) (gMo x) j w (c9, d9) := by rw [hp1, hp2, hp3]
                    have hoo := bI_ne0.mp c_15
                    rw [heq] at hoo
                    refine lv_aload_n hx hb dX4_strong_69 rfl (lv_at hl 0 rfl) ?_
                    refine k_get hx hb hts hown hK hP iw_X4_strong_X4 rfl 0 20 fm_X4_strong_134 (by decide) rfl rfl dX4_strong_70 ?_
                    refine lv_aload_n hx hb dX4_strong_73 rfl (lv_at hl 0 rfl) ?_
                    refine k_get hx hb hts hown hK hP iw_X4_strong_X4 rfl 0 21 fm_X4_strong_137 (by decide) rfl rfl dX4_strong_74 ?_
                    refine W.lcmp hx hb dX4_strong_77 ?_
                    refine lv_if_ne (tgt := 93) hx hb dX4_strong_78 (by decide) (fun c_16 => ?_) (fun c_16 => ?_)
                    · skip
                      have c_16 := mt (lc_eq _ _).mpr c_16
                      have hne := c_16
                      rw [heq] at hne
                      have hv2 : msT (plN x) (plA x) (gMi x) (gMo x) w 0 (gMw x) (u_6.2.2.1, u_6.2.2.2) = msT (plN x) (plA x) (gMi x) (gMo x) w (j + 1) (gMw x - (j + 1)) ((oneF (gNu u_2) (gNi u_2) (gNo u_2) j w (c9, d9)).2.1, (oneF (gNu u_2) (gNi u_2) (gNo u_2) j w (c9, d9)).2.2) := by rw [hv, show gMw x - j = (gMw x - (j + 1)) + 1 by omega, msT, if_neg ham, if_neg (fun z => hne z.2.1), heq]
                      refine lv_iinc (v := nI (j + 1)) (lv' := [(4, .int (nI (j + 1))), (0, .ref (md 0)), (1, .int (nI 3)), (2, .int (nI w))]) hx hb dX4_strong_93 hl (k := 3) rfl (nI_inc1 j) (by decide) rfl (fun ls hl => ?_)
                      refine lv_goto (tgt := 40) hx hb dX4_strong_96 (by decide) ?_
                      exact ih_40 (j + 1) ((oneF (gNu u_2) (gNi u_2) (gNo u_2) j w (c9, d9)).2.1) ((oneF (gNu u_2) (gNi u_2) (gNo u_2) j w (c9, d9)).2.2) (by omega) (by omega) hv2 _ _ hP hD hS ls (lv_sub hl [1, 2, 3, 0] rfl)
                    · skip
                      have c_16 := (lc_eq _ _).mp c_16
                      have hne := c_16
                      rw [heq] at hne
                      refine lv_aload_n hx hb dX4_strong_81 rfl (lv_at hl 0 rfl) ?_
                      refine lv_iload hx hb dX4_strong_82 (lv_at hl 3 rfl) ?_
                      refine lv_iload_n hx hb dX4_strong_84 rfl (lv_at hl 2 rfl) ?_
                      refine go_i (wc := [(md 0, .inr (4, [.int (gXt u_2), .int (nI (gMi u_2)), .int (nI (gMo u_2)), .int (nI (gMw u_2)), .ref (md 1), .ref (md 2), .ref (md 3), .int (nI (gNi u_2)), .int (nI (gNo u_2)), .ref (md 4), .ref (md 5), .ref (md 6), .int (nI (gNs u_2)), .ref (md 7), .ref (md 8), .int (nI (gNb u_2)), .int (nI (gWd u_2)), .ref (md 9), .long (u_6.1), .long (u_6.2.1), .long ((oneF (gNu u_2) (gNi u_2) (gNo u_2) j w (c9, d9)).2.1), .long ((oneF (gNu u_2) (gNi u_2) (gNo u_2) j w (c9, d9)).2.2)])), (md 4, aI g 48 (gNu u_2))]) (wr := [(md 1, aI g 48 (gLo u_2)), (md 2, aI g 48 (gHi u_2)), (md 3, aZ g 12 (gTr u_2)), (md 5, aZ g 12 (gAm u_2)), (md 6, aJ g 13000 (gSd u_2)), (md 7, aJ g 85 (gBd u_2)), (md 8, aJ g 5 (gWy u_2)), (md 9, aI g 5 (fun j => nI ((gCh u_2) j)))]) hP hD hS hA [0, 4] [1, 2, 3, 5, 6, 7, 8, 9] rfl rfl rfl rfl (by decide) (fun hPc hDc => rn_V (As := [.int (nI j), .int (nI w)]) (rest := []) ⟨hx, hb, hml, hown, hts⟩ ((c_X4_isAlike l g md (gXt u_2) (gMi u_2) (gMo u_2) (gMw u_2) (gNi u_2) (gNo u_2) (gNs u_2) (gNb u_2) (gWd u_2) u_6.1 u_6.2.1 ((oneF (gNu u_2) (gNi u_2) (gNo u_2) j w (c9, d9)).2.1) ((oneF (gNu u_2) (gNi u_2) (gNo u_2) j w (c9, d9)).2.2) (gNu u_2) j w (by omega) (by omega) (by omega) (by omega)) _) (cw_X4_strong_164_0_0 hts hN ⟨Nat.le_of_ble_eq_true rfl, Nat.le_of_ble_eq_true rfl⟩) hK hN hPc hDc 0 rfl rfl rfl rfl hl.1 (Nat.le_of_ble_eq_true rfl) dX4_strong_85 ⟨Nat.le_of_ble_eq_true rfl, Nat.le_of_ble_eq_true rfl⟩) ?_
                      intro r_17 u_18 H locs h_19 hP hD hS
                      have hP : va_P g.1 vwCl [(md 0, .inr (4, [.int (gXt u_2), .int (nI (gMi u_2)), .int (nI (gMo u_2)), .int (nI (gMw u_2)), .ref (md 1), .ref (md 2), .ref (md 3), .int (nI (gNi u_2)), .int (nI (gNo u_2)), .ref (md 4), .ref (md 5), .ref (md 6), .int (nI (gNs u_2)), .ref (md 7), .ref (md 8), .int (nI (gNb u_2)), .int (nI (gWd u_2)), .ref (md 9), .long (u_6.1), .long (u_6.2.1), .long ((oneF (gNu u_2) (gNi u_2) (gNo u_2) j w (c9, d9)).2.1), .long ((oneF (gNu u_2) (gNi u_2) (gNo u_2) j w (c9, d9)).2.2)])), (md 1, aI g 48 (gLo u_2)), (md 2, aI g 48 (gHi u_2)), (md 3, aZ g 12 (gTr u_2)), (md 4, aI g 48 (gNu u_2)), (md 5, aZ g 12 (gAm u_2)), (md 6, aJ g 13000 (gSd u_2)), (md 7, aJ g 85 (gBd u_2)), (md 8, aJ g 5 (gWy u_2)), (md 9, aI g 5 (fun j => nI ((gCh u_2) j)))] H := hP.sub [8, 0, 1, 2, 9, 3, 4, 5, 6, 7] rfl
                      have hD : va_D A [(md 0, .inr (4, [.int (gXt u_2), .int (nI (gMi u_2)), .int (nI (gMo u_2)), .int (nI (gMw u_2)), .ref (md 1), .ref (md 2), .ref (md 3), .int (nI (gNi u_2)), .int (nI (gNo u_2)), .ref (md 4), .ref (md 5), .ref (md 6), .int (nI (gNs u_2)), .ref (md 7), .ref (md 8), .int (nI (gNb u_2)), .int (nI (gWd u_2)), .ref (md 9), .long (u_6.1), .long (u_6.2.1), .long ((oneF (gNu u_2) (gNi u_2) (gNo u_2) j w (c9, d9)).2.1), .long ((oneF (gNu u_2) (gNi u_2) (gNo u_2) j w (c9, d9)).2.2)])), (md 1, aI g 48 (gLo u_2)), (md 2, aI g 48 (gHi u_2)), (md 3, aZ g 12 (gTr u_2)), (md 4, aI g 48 (gNu u_2)), (md 5, aZ g 12 (gAm u_2)), (md 6, aJ g 13000 (gSd u_2)), (md 7, aJ g 85 (gBd u_2)), (md 8, aJ g 5 (gWy u_2)), (md 9, aI g 5 (fun j => nI ((gCh u_2) j)))] := hD.sub [8, 0, 1, 2, 9, 3, 4, 5, 6, 7] rfl rfl
                      have h_19 : r_17 = bI (alkB (gNu u_2) j w 0 ((gNi u_2) + (gNo u_2)) true) := h_19
                      subst h_19
                      refine lv_if_ne (tgt := 93) hx hb dX4_strong_88 (by decide) (fun c_20 => ?_) (fun c_20 => ?_)
                      · skip
                        have hak := bI_ne0.mp c_20
                        rw [hp1, hp2, hp3] at hak
                        have hv2 : msT (plN x) (plA x) (gMi x) (gMo x) w 0 (gMw x) (u_6.2.2.1, u_6.2.2.2) = msT (plN x) (plA x) (gMi x) (gMo x) w (j + 1) (gMw x - (j + 1)) ((oneF (gNu u_2) (gNi u_2) (gNo u_2) j w (c9, d9)).2.1, (oneF (gNu u_2) (gNi u_2) (gNo u_2) j w (c9, d9)).2.2) := by rw [hv, show gMw x - j = (gMw x - (j + 1)) + 1 by omega, msT, if_neg ham, if_neg (fun z => by rw [hak] at z; exact absurd z.2.2 (by decide)), heq]
                        refine lv_iinc (v := nI (j + 1)) (lv' := [(4, .int (nI (j + 1))), (0, .ref (md 0)), (1, .int (nI 3)), (2, .int (nI w))]) hx hb dX4_strong_93 hl (k := 3) rfl (nI_inc1 j) (by decide) rfl (fun ls hl => ?_)
                        refine lv_goto (tgt := 40) hx hb dX4_strong_96 (by decide) ?_
                        exact ih_40 (j + 1) ((oneF (gNu u_2) (gNi u_2) (gNo u_2) j w (c9, d9)).2.1) ((oneF (gNu u_2) (gNi u_2) (gNo u_2) j w (c9, d9)).2.2) (by omega) (by omega) hv2 _ _ hP hD hS ls (lv_sub hl [1, 2, 3, 0] rfl)
                      · skip
                        have hak := bI_eq0.mp c_20
                        rw [hp1, hp2, hp3] at hak
                        have hres : msT (plN x) (plA x) (gMi x) (gMo x) w 0 (gMw x) (u_6.2.2.1, u_6.2.2.2) = false := by rw [hv, show gMw x - j = (gMw x - (j + 1)) + 1 by omega, msT, if_neg ham, if_pos ⟨hoo, hne, hak⟩]
                        refine lv_iconst (v := nI 0) hx hb dX4_strong_91 (by decide) ?_
                        exact ret dX4_strong_92 ((gXt u_2, gMi u_2, gMo u_2, gMw u_2, gLo u_2, gHi u_2, gTr u_2, gNi u_2, gNo u_2, gNu u_2, gAm u_2, gSd u_2, gNs u_2, gBd u_2, gWy u_2, gNb u_2, gWd u_2, (gCh u_2), u_6.1, u_6.2.1, (oneF (gNu u_2) (gNi u_2) (gNo u_2) j w (c9, d9)).2.1, (oneF (gNu u_2) (gNi u_2) (gNo u_2) j w (c9, d9)).2.2)) (⟨hkp, Or.inl ⟨hac, Or.inl ⟨wN_n (by decide), _, _, _, ⟨_, _, _, _, by rw [wN_n hw31]; exact hsh⟩, Or.inr ⟨hte, (u_6.2.2.1, u_6.2.2.2), by rw [wN_n hw31, hres]; rfl⟩⟩⟩⟩) hP hD hS
          exact lp_40 (gMw x - 0 + 1) 0 u_6.2.2.1 u_6.2.2.2 (by omega) (by omega) rfl _ _ hP hD hS ls (lv_sub hl [2, 3, 4, 0] rfl)
      · skip
        have c_8 := mt (lc_eq _ _).mpr c_8
        have hte := c_8
        refine lv_iconst (v := nI 0) hx hb dX4_strong_30 (by decide) ?_
        exact ret dX4_strong_31 ((gXt u_2, gMi u_2, gMo u_2, gMw u_2, gLo u_2, gHi u_2, gTr u_2, gNi u_2, gNo u_2, gNu u_2, gAm u_2, gSd u_2, gNs u_2, gBd u_2, gWy u_2, gNb u_2, gWd u_2, (gCh u_2), u_6.1, u_6.2.1, u_6.2.2.1, u_6.2.2.2)) (⟨hkp, Or.inl ⟨hac, Or.inl ⟨wN_n (by decide), _, _, _, ⟨_, _, _, _, by rw [wN_n hw31]; exact hsh⟩, Or.inl ⟨hte, rfl⟩⟩⟩⟩) hP hD hS
    · skip
      refine lv_aload_n hx hb dX4_strong_11 rfl (lv_at hl 0 rfl) ?_
      refine lv_iload_n hx hb dX4_strong_12 rfl (lv_at hl 1 rfl) ?_
      refine lv_iload_n hx hb dX4_strong_13 rfl (lv_at hl 2 rfl) ?_
      refine go_i (wc := [(md 0, .inr (4, [.int (gXt u_2), .int (nI (gMi u_2)), .int (nI (gMo u_2)), .int (nI (gMw u_2)), .ref (md 1), .ref (md 2), .ref (md 3), .int (nI (gNi u_2)), .int (nI (gNo u_2)), .ref (md 4), .ref (md 5), .ref (md 6), .int (nI (gNs u_2)), .ref (md 7), .ref (md 8), .int (nI (gNb u_2)), .int (nI (gWd u_2)), .ref (md 9), .long (gTp u_2), .long (gBl u_2), .long (gWt u_2), .long (gWb u_2)])), (md 4, aI g 48 (gNu u_2)), (md 5, aZ g 12 (gAm u_2)), (md 7, aJ g 85 (gBd u_2)), (md 9, aI g 5 (fun j => nI ((gCh u_2) j))), (md 8, aJ g 5 (gWy u_2)), (md 6, aJ g 13000 (gSd u_2))]) (wr := [(md 1, aI g 48 (gLo u_2)), (md 2, aI g 48 (gHi u_2)), (md 3, aZ g 12 (gTr u_2))]) hP hD hS hA [0, 4, 5, 7, 9, 8, 6] [1, 2, 3] rfl rfl rfl rfl (by decide) (fun hPc hDc => rn_V (As := [.int (nI v), .int (nI w)]) (rest := []) ⟨hx, hb, hml, hown, hts⟩ ((c_X4_shares l g md (gXt u_2) (gMi u_2) (gMo u_2) (gMw u_2) (gNi u_2) (gNo u_2) (gNs u_2) (gNb u_2) (gWd u_2) (gTp u_2) (gBl u_2) (gWt u_2) (gWb u_2) (gNu u_2) (gAm u_2) (gBd u_2) (gCh u_2) (gWy u_2) (gSd u_2) v w (by omega) (by omega) (by omega) (by omega) (by omega) (by omega) (by omega)) _) (cw_X4_strong_157_12_299 hts hN ⟨Nat.le_of_ble_eq_true rfl, Nat.le_of_ble_eq_true rfl⟩) hK hN hPc hDc 0 rfl rfl rfl rfl hl.1 (Nat.le_of_ble_eq_true rfl) dX4_strong_14 ⟨Nat.le_of_ble_eq_true rfl, Nat.le_of_ble_eq_true rfl⟩) ?_
      intro r_21 u_22 H locs h_23 hP hD hS
      have hP : va_P g.1 vwCl [(md 0, .inr (4, [.int (gXt u_2), .int (nI (gMi u_2)), .int (nI (gMo u_2)), .int (nI (gMw u_2)), .ref (md 1), .ref (md 2), .ref (md 3), .int (nI (gNi u_2)), .int (nI (gNo u_2)), .ref (md 4), .ref (md 5), .ref (md 6), .int (nI u_22.1), .ref (md 7), .ref (md 8), .int (nI u_22.2.1), .int (nI u_22.2.2.1), .ref (md 9), .long (u_22.2.2.2.2.2.2.2.1), .long (u_22.2.2.2.2.2.2.2.2), .long (gWt u_2), .long (gWb u_2)])), (md 1, aI g 48 (gLo u_2)), (md 2, aI g 48 (gHi u_2)), (md 3, aZ g 12 (gTr u_2)), (md 4, aI g 48 (gNu u_2)), (md 5, aZ g 12 (gAm u_2)), (md 6, aJ g 13000 u_22.2.2.2.2.2.2.1), (md 7, aJ g 85 u_22.2.2.2.1), (md 8, aJ g 5 u_22.2.2.2.2.2.1), (md 9, aI g 5 (fun j => nI (u_22.2.2.2.2.1 j)))] H := hP.sub [3, 0, 1, 2, 4, 5, 9, 6, 8, 7] rfl
      have hD : va_D A [(md 0, .inr (4, [.int (gXt u_2), .int (nI (gMi u_2)), .int (nI (gMo u_2)), .int (nI (gMw u_2)), .ref (md 1), .ref (md 2), .ref (md 3), .int (nI (gNi u_2)), .int (nI (gNo u_2)), .ref (md 4), .ref (md 5), .ref (md 6), .int (nI u_22.1), .ref (md 7), .ref (md 8), .int (nI u_22.2.1), .int (nI u_22.2.2.1), .ref (md 9), .long (u_22.2.2.2.2.2.2.2.1), .long (u_22.2.2.2.2.2.2.2.2), .long (gWt u_2), .long (gWb u_2)])), (md 1, aI g 48 (gLo u_2)), (md 2, aI g 48 (gHi u_2)), (md 3, aZ g 12 (gTr u_2)), (md 4, aI g 48 (gNu u_2)), (md 5, aZ g 12 (gAm u_2)), (md 6, aJ g 13000 u_22.2.2.2.2.2.2.1), (md 7, aJ g 85 u_22.2.2.2.1), (md 8, aJ g 5 u_22.2.2.2.2.2.1), (md 9, aI g 5 (fun j => nI (u_22.2.2.2.2.1 j)))] := hD.sub [3, 0, 1, 2, 4, 5, 9, 6, 8, 7] rfl rfl
      have h_23 : shQ (gNu u_2) (gAm u_2) (gNi u_2) (gNo u_2) (gMw u_2) v w (gTp u_2) (gBl u_2) r_21 u_22.1 u_22.2.2.2.2.2.2.1 u_22.2.2.2.2.2.2.2.1 u_22.2.2.2.2.2.2.2.2 := h_23
      have hsh := h_23
      rw [hp1, hp2, hp3, hp4, hk3] at hsh
      have hAn : anB (plA x) 0 (gMw x) false = true := anB_of (plA x) (gMw x) 0 w false (Nat.zero_le _) (by omega) (by rw [plA_at hw]; have := hac.2.2.1; rw [wN_n hw31] at this; exact this)
      obtain ⟨hmo9, hr9, ht9, hb9⟩ := shQ_ok hAn hsh
      have hns := mOK_le hmi hmo hmw hmo9
      have hsq : mSq x v w _ _ _ _ := ⟨hmo9, ht9, hb9⟩
      refine lv_istore_n (lv' := [(3, .int (r_21)), (0, .ref (md 0)), (1, .int (nI v)), (2, .int (nI w))]) hx hb dX4_strong_17 rfl hl (by decide) rfl (fun ls hl => ?_)
      refine lv_aload_n hx hb dX4_strong_18 rfl (lv_at hl 1 rfl) ?_
      refine k_get hx hb hts hown hK hP iw_X4_strong_X4 rfl 0 18 fm_X4_strong_121 (by decide) rfl rfl dX4_strong_19 ?_
      refine lv_aload_n hx hb dX4_strong_22 rfl (lv_at hl 1 rfl) ?_
      refine k_get hx hb hts hown hK hP iw_X4_strong_X4 rfl 0 19 fm_X4_strong_125 (by decide) rfl rfl dX4_strong_23 ?_
      refine W.lcmp hx hb dX4_strong_26 ?_
      refine lv_if_eq (tgt := 32) hx hb dX4_strong_27 (by decide) (fun c_24 => ?_) (fun c_24 => ?_)
      · skip
        have c_24 := (lc_eq _ _).mp c_24
        have hte := c_24
        refine lv_iload_n hx hb dX4_strong_32 rfl (lv_at hl 2 rfl) ?_
        refine lv_iconst (v := nI 3) hx hb dX4_strong_33 (by decide) ?_
        refine lv_icmp_ne (tgt := 101) hx hb dX4_strong_34 (by decide) (fun c_25 => ?_) (fun c_25 => ?_)
        · skip
          have c_25 := mt (nI_eq (by omega) (by omega)).mpr c_25
          refine lv_iconst (v := nI 0) hx hb dX4_strong_101 (by decide) ?_
          refine lv_istore (lv' := [(4, .int (nI 0)), (3, .int (r_21)), (0, .ref (md 0)), (1, .int (nI v)), (2, .int (nI w))]) hx hb dX4_strong_102 hl (by decide) rfl (fun ls hl => ?_)
          have lp_104 : ∀ (n : Nat) (k : Nat), gMi x + gMo x - k < n → k ≤ 4 → msK u_22.2.2.2.2.2.2.1 (plN x) (gMi x) (gMo x) w u_22.2.2.2.2.2.2.2.1 u_22.2.2.2.2.2.2.2.2 u_22.1 0 (gMi x + gMo x) = msK u_22.2.2.2.2.2.2.1 (plN x) (gMi x) (gMo x) w u_22.2.2.2.2.2.2.2.1 u_22.2.2.2.2.2.2.2.2 u_22.1 k ((gMi x + gMo x) - k) → ∀ (H : Heap) (locs : List Loc), va_P g.1 vwCl [(md 0, .inr (4, [.int (gXt u_2), .int (nI (gMi u_2)), .int (nI (gMo u_2)), .int (nI (gMw u_2)), .ref (md 1), .ref (md 2), .ref (md 3), .int (nI (gNi u_2)), .int (nI (gNo u_2)), .ref (md 4), .ref (md 5), .ref (md 6), .int (nI u_22.1), .ref (md 7), .ref (md 8), .int (nI u_22.2.1), .int (nI u_22.2.2.1), .ref (md 9), .long (u_22.2.2.2.2.2.2.2.1), .long (u_22.2.2.2.2.2.2.2.2), .long (gWt u_2), .long (gWb u_2)])), (md 1, aI g 48 (gLo u_2)), (md 2, aI g 48 (gHi u_2)), (md 3, aZ g 12 (gTr u_2)), (md 4, aI g 48 (gNu u_2)), (md 5, aZ g 12 (gAm u_2)), (md 6, aJ g 13000 u_22.2.2.2.2.2.2.1), (md 7, aJ g 85 u_22.2.2.2.1), (md 8, aJ g 5 u_22.2.2.2.2.2.1), (md 9, aI g 5 (fun j => nI (u_22.2.2.2.2.1 j)))] H → va_D A [(md 0, .inr (4, [.int (gXt u_2), .int (nI (gMi u_2)), .int (nI (gMo u_2)), .int (nI (gMw u_2)), .ref (md 1), .ref (md 2), .ref (md 3), .int (nI (gNi u_2)), .int (nI (gNo u_2)), .ref (md 4), .ref (md 5), .ref (md 6), .int (nI u_22.1), .ref (md 7), .ref (md 8), .int (nI u_22.2.1), .int (nI u_22.2.2.1), .ref (md 9), .long (u_22.2.2.2.2.2.2.2.1), .long (u_22.2.2.2.2.2.2.2.2), .long (gWt u_2), .long (gWb u_2)])), (md 1, aI g 48 (gLo u_2)), (md 2, aI g 48 (gHi u_2)), (md 3, aZ g 12 (gTr u_2)), (md 4, aI g 48 (gNu u_2)), (md 5, aZ g 12 (gAm u_2)), (md 6, aJ g 13000 u_22.2.2.2.2.2.2.1), (md 7, aJ g 85 u_22.2.2.2.1), (md 8, aJ g 5 u_22.2.2.2.2.2.1), (md 9, aI g 5 (fun j => nI (u_22.2.2.2.2.1 j)))] → va_S A s.heap H locs → ∀ ls : Array Slot, lv_has ls 7 [(0, .ref (md 0)), (1, .int (nI v)), (2, .int (nI w)), (4, .int (nI k))] → W p l e { frames := 13, cells := 0, slots := 0, locals := 327 } s m args below meth c H locs 0 0 Q (F0 m 104 ls []) := by
            intro n
            induction n with
            | zero =>
              intro k hms
              omega
            | succ n ih_104 =>
              intro k hms_104 hk hv H locs hP hD hS ls hl
              refine lv_iload hx hb dX4_strong_104 (lv_at hl 3 rfl) ?_
              refine lv_aload_n hx hb dX4_strong_106 rfl (lv_at hl 0 rfl) ?_
              refine k_get hx hb hts hown hK hP iw_X4_strong_X4 rfl 0 7 fm_X4_strong_64 (by decide) rfl rfl dX4_strong_107 ?_
              refine lv_aload_n hx hb dX4_strong_110 rfl (lv_at hl 0 rfl) ?_
              refine k_get hx hb hts hown hK hP iw_X4_strong_X4 rfl 0 8 fm_X4_strong_67 (by decide) rfl rfl dX4_strong_111 ?_
              refine lv_iadd hx hb dX4_strong_114 ?_
              refine k_ei (y := nI (gNi u_2 + (gNo u_2))) (nI_add _ _) ?_
              refine lv_icmp_ge (tgt := 191) hx hb dX4_strong_115 (by decide) (fun c_26 => ?_) (fun c_26 => ?_)
              · skip
                have c_26 := (nI_leI (by omega) (by omega)).mp c_26
                have hres : msK u_22.2.2.2.2.2.2.1 (plN x) (gMi x) (gMo x) w u_22.2.2.2.2.2.2.2.1 u_22.2.2.2.2.2.2.2.2 u_22.1 0 (gMi x + gMo x) = true := by rw [hv, show (gMi x + gMo x) - k = 0 by omega]; rfl
                refine lv_iconst (v := nI 1) hx hb dX4_strong_191 (by decide) ?_
                exact ret dX4_strong_192 ((gXt u_2, gMi u_2, gMo u_2, gMw u_2, gLo u_2, gHi u_2, gTr u_2, gNi u_2, gNo u_2, gNu u_2, gAm u_2, u_22.2.2.2.2.2.2.1, u_22.1, u_22.2.2.2.1, u_22.2.2.2.2.2.1, u_22.2.1, u_22.2.2.1, u_22.2.2.2.2.1, u_22.2.2.2.2.2.2.2.1, u_22.2.2.2.2.2.2.2.2, gWt u_2, gWb u_2)) (⟨hkp, Or.inl ⟨hac, Or.inr ⟨by rw [wN_n hv31]; exact hv2, _, _, _, _, by rw [wN_n hw31, wN_n hv31]; exact hsq, Or.inr ⟨hte, by rw [wN_n hw31, hres]; rfl⟩⟩⟩⟩) hP hD hS
              · skip
                have c_26 := mt (nI_leI (by omega) (by omega)).mpr c_26
                refine lv_iconst (v := nI 0) hx hb dX4_strong_118 (by decide) ?_
                refine lv_istore (lv' := [(5, .int (bI false)), (0, .ref (md 0)), (1, .int (nI v)), (2, .int (nI w)), (4, .int (nI k))]) hx hb dX4_strong_119 hl (by decide) rfl (fun ls hl => ?_)
                refine lv_iconst (v := nI 0) hx hb dX4_strong_121 (by decide) ?_
                refine lv_istore (lv' := [(6, .int (nI 0)), (5, .int (bI false)), (0, .ref (md 0)), (1, .int (nI v)), (2, .int (nI w)), (4, .int (nI k))]) hx hb dX4_strong_122 hl (by decide) rfl (fun ls hl => ?_)
                have lp_124 : ∀ (n : Nat) (i : Nat) (q : Bool), u_22.1 - i < n → i ≤ u_22.1 → msW u_22.2.2.2.2.2.2.1 (plN x) (gMi x) (gMo x) w u_22.2.2.2.2.2.2.2.1 u_22.2.2.2.2.2.2.2.2 k 0 (u_22.1) false = msW u_22.2.2.2.2.2.2.1 (plN x) (gMi x) (gMo x) w u_22.2.2.2.2.2.2.2.1 u_22.2.2.2.2.2.2.2.2 k i (u_22.1 - i) q → ∀ (H : Heap) (locs : List Loc), va_P g.1 vwCl [(md 0, .inr (4, [.int (gXt u_2), .int (nI (gMi u_2)), .int (nI (gMo u_2)), .int (nI (gMw u_2)), .ref (md 1), .ref (md 2), .ref (md 3), .int (nI (gNi u_2)), .int (nI (gNo u_2)), .ref (md 4), .ref (md 5), .ref (md 6), .int (nI u_22.1), .ref (md 7), .ref (md 8), .int (nI u_22.2.1), .int (nI u_22.2.2.1), .ref (md 9), .long (u_22.2.2.2.2.2.2.2.1), .long (u_22.2.2.2.2.2.2.2.2), .long (gWt u_2), .long (gWb u_2)])), (md 1, aI g 48 (gLo u_2)), (md 2, aI g 48 (gHi u_2)), (md 3, aZ g 12 (gTr u_2)), (md 4, aI g 48 (gNu u_2)), (md 5, aZ g 12 (gAm u_2)), (md 6, aJ g 13000 u_22.2.2.2.2.2.2.1), (md 7, aJ g 85 u_22.2.2.2.1), (md 8, aJ g 5 u_22.2.2.2.2.2.1), (md 9, aI g 5 (fun j => nI (u_22.2.2.2.2.1 j)))] H → va_D A [(md 0, .inr (4, [.int (gXt u_2), .int (nI (gMi u_2)), .int (nI (gMo u_2)), .int (nI (gMw u_2)), .ref (md 1), .ref (md 2), .ref (md 3), .int (nI (gNi u_2)), .int (nI (gNo u_2)), .ref (md 4), .ref (md 5), .ref (md 6), .int (nI u_22.1), .ref (md 7), .ref (md 8), .int (nI u_22.2.1), .int (nI u_22.2.2.1), .ref (md 9), .long (u_22.2.2.2.2.2.2.2.1), .long (u_22.2.2.2.2.2.2.2.2), .long (gWt u_2), .long (gWb u_2)])), (md 1, aI g 48 (gLo u_2)), (md 2, aI g 48 (gHi u_2)), (md 3, aZ g 12 (gTr u_2)), (md 4, aI g 48 (gNu u_2)), (md 5, aZ g 12 (gAm u_2)), (md 6, aJ g 13000 u_22.2.2.2.2.2.2.1), (md 7, aJ g 85 u_22.2.2.2.1), (md 8, aJ g 5 u_22.2.2.2.2.2.1), (md 9, aI g 5 (fun j => nI (u_22.2.2.2.2.1 j)))] → va_S A s.heap H locs → ∀ ls : Array Slot, lv_has ls 7 [(0, .ref (md 0)), (1, .int (nI v)), (2, .int (nI w)), (4, .int (nI k)), (5, .int (bI q)), (6, .int (nI i))] → W p l e { frames := 13, cells := 0, slots := 0, locals := 327 } s m args below meth c H locs 0 0 Q (F0 m 124 ls []) := by
                  intro n
                  induction n with
                  | zero =>
                    intro i q hms
                    omega
                  | succ n ih_124 =>
                    intro i q hms_124 hi9 hI H locs hP hD hS ls hl
                    refine lv_iload hx hb dX4_strong_124 (lv_at hl 5 rfl) ?_
                    refine lv_aload_n hx hb dX4_strong_126 rfl (lv_at hl 0 rfl) ?_
                    refine k_get hx hb hts hown hK hP iw_X4_strong_X4 rfl 0 12 fm_X4_strong_81 (by decide) rfl rfl dX4_strong_127 ?_
                    refine lv_icmp_ge (tgt := 178) hx hb dX4_strong_130 (by decide) (fun c_27 => ?_) (fun c_27 => ?_)
                    · skip
                      have c_27 := (nI_leI (by omega) (by omega)).mp c_27
                      have hwq : msW u_22.2.2.2.2.2.2.1 (plN x) (gMi x) (gMo x) w u_22.2.2.2.2.2.2.2.1 u_22.2.2.2.2.2.2.2.2 k 0 (u_22.1) false = q := by rw [hI, show u_22.1 - i = 0 by omega]; rfl
                      refine lv_iload hx hb dX4_strong_178 (lv_at hl 4 rfl) ?_
                      refine lv_if_ne (tgt := 185) hx hb dX4_strong_180 (by decide) (fun c_28 => ?_) (fun c_28 => ?_)
                      · skip
                        have hv2 : msK u_22.2.2.2.2.2.2.1 (plN x) (gMi x) (gMo x) w u_22.2.2.2.2.2.2.2.1 u_22.2.2.2.2.2.2.2.2 u_22.1 0 (gMi x + gMo x) = msK u_22.2.2.2.2.2.2.1 (plN x) (gMi x) (gMo x) w u_22.2.2.2.2.2.2.2.1 u_22.2.2.2.2.2.2.2.2 u_22.1 (k + 1) ((gMi x + gMo x) - (k + 1)) := by rw [hv, show (gMi x + gMo x) - k = ((gMi x + gMo x) - (k + 1)) + 1 by omega, msK, if_pos (by rw [hwq]; exact bI_ne0.mp c_28)]
                        refine lv_iinc (v := nI (k + 1)) (lv' := [(4, .int (nI (k + 1))), (0, .ref (md 0)), (1, .int (nI v)), (2, .int (nI w)), (5, .int (bI q)), (6, .int (nI i))]) hx hb dX4_strong_185 hl (k := 3) rfl (nI_inc1 k) (by decide) rfl (fun ls hl => ?_)
                        refine lv_goto (tgt := 104) hx hb dX4_strong_188 (by decide) ?_
                        exact ih_104 (k + 1) (by omega) (by omega) hv2 _ _ hP hD hS ls (lv_sub hl [1, 2, 3, 0] rfl)
                      · skip
                        have hres : msK u_22.2.2.2.2.2.2.1 (plN x) (gMi x) (gMo x) w u_22.2.2.2.2.2.2.2.1 u_22.2.2.2.2.2.2.2.2 u_22.1 0 (gMi x + gMo x) = false := by rw [hv, show (gMi x + gMo x) - k = ((gMi x + gMo x) - (k + 1)) + 1 by omega, msK, if_neg (by rw [hwq, bI_eq0.mp c_28]; decide)]
                        refine lv_iconst (v := nI 0) hx hb dX4_strong_183 (by decide) ?_
                        exact ret dX4_strong_184 ((gXt u_2, gMi u_2, gMo u_2, gMw u_2, gLo u_2, gHi u_2, gTr u_2, gNi u_2, gNo u_2, gNu u_2, gAm u_2, u_22.2.2.2.2.2.2.1, u_22.1, u_22.2.2.2.1, u_22.2.2.2.2.2.1, u_22.2.1, u_22.2.2.1, u_22.2.2.2.2.1, u_22.2.2.2.2.2.2.2.1, u_22.2.2.2.2.2.2.2.2, gWt u_2, gWb u_2)) (⟨hkp, Or.inl ⟨hac, Or.inr ⟨by rw [wN_n hv31]; exact hv2, _, _, _, _, by rw [wN_n hw31, wN_n hv31]; exact hsq, Or.inr ⟨hte, by rw [wN_n hw31, hres]; rfl⟩⟩⟩⟩) hP hD hS
                    · skip
                      have c_27 := mt (nI_leI (by omega) (by omega)).mpr c_27
                      refine lv_iload hx hb dX4_strong_133 (lv_at hl 4 rfl) ?_
                      have lp_170 : ∀ (qq : Bool), msW u_22.2.2.2.2.2.2.1 (plN x) (gMi x) (gMo x) w u_22.2.2.2.2.2.2.2.1 u_22.2.2.2.2.2.2.2.2 k 0 (u_22.1) false = msW u_22.2.2.2.2.2.2.1 (plN x) (gMi x) (gMo x) w u_22.2.2.2.2.2.2.2.1 u_22.2.2.2.2.2.2.2.2 k (i + 1) (u_22.1 - (i + 1)) qq → ∀ (H : Heap) (locs : List Loc), va_P g.1 vwCl [(md 0, .inr (4, [.int (gXt u_2), .int (nI (gMi u_2)), .int (nI (gMo u_2)), .int (nI (gMw u_2)), .ref (md 1), .ref (md 2), .ref (md 3), .int (nI (gNi u_2)), .int (nI (gNo u_2)), .ref (md 4), .ref (md 5), .ref (md 6), .int (nI u_22.1), .ref (md 7), .ref (md 8), .int (nI u_22.2.1), .int (nI u_22.2.2.1), .ref (md 9), .long (u_22.2.2.2.2.2.2.2.1), .long (u_22.2.2.2.2.2.2.2.2), .long (gWt u_2), .long (gWb u_2)])), (md 1, aI g 48 (gLo u_2)), (md 2, aI g 48 (gHi u_2)), (md 3, aZ g 12 (gTr u_2)), (md 4, aI g 48 (gNu u_2)), (md 5, aZ g 12 (gAm u_2)), (md 6, aJ g 13000 u_22.2.2.2.2.2.2.1), (md 7, aJ g 85 u_22.2.2.2.1), (md 8, aJ g 5 u_22.2.2.2.2.2.1), (md 9, aI g 5 (fun j => nI (u_22.2.2.2.2.1 j)))] H → va_D A [(md 0, .inr (4, [.int (gXt u_2), .int (nI (gMi u_2)), .int (nI (gMo u_2)), .int (nI (gMw u_2)), .ref (md 1), .ref (md 2), .ref (md 3), .int (nI (gNi u_2)), .int (nI (gNo u_2)), .ref (md 4), .ref (md 5), .ref (md 6), .int (nI u_22.1), .ref (md 7), .ref (md 8), .int (nI u_22.2.1), .int (nI u_22.2.2.1), .ref (md 9), .long (u_22.2.2.2.2.2.2.2.1), .long (u_22.2.2.2.2.2.2.2.2), .long (gWt u_2), .long (gWb u_2)])), (md 1, aI g 48 (gLo u_2)), (md 2, aI g 48 (gHi u_2)), (md 3, aZ g 12 (gTr u_2)), (md 4, aI g 48 (gNu u_2)), (md 5, aZ g 12 (gAm u_2)), (md 6, aJ g 13000 u_22.2.2.2.2.2.2.1), (md 7, aJ g 85 u_22.2.2.2.1), (md 8, aJ g 5 u_22.2.2.2.2.2.1), (md 9, aI g 5 (fun j => nI (u_22.2.2.2.2.1 j)))] → va_S A s.heap H locs → ∀ ls : Array Slot, lv_has ls 7 [(0, .ref (md 0)), (1, .int (nI v)), (2, .int (nI w)), (4, .int (nI k)), (6, .int (nI i))] → W p l e { frames := 13, cells := 0, slots := 0, locals := 327 } s m args below meth c H locs 0 0 Q (F0 m 170 ls [.int (bI qq)]) := by
                        intro qq hvq H locs hP hD hS ls hl
                        refine lv_istore (lv' := [(5, .int (bI qq)), (0, .ref (md 0)), (1, .int (nI v)), (2, .int (nI w)), (4, .int (nI k)), (6, .int (nI i))]) hx hb dX4_strong_170 hl (by decide) rfl (fun ls hl => ?_)
                        refine lv_iinc (v := nI (i + 1)) (lv' := [(6, .int (nI (i + 1))), (5, .int (bI qq)), (0, .ref (md 0)), (1, .int (nI v)), (2, .int (nI w)), (4, .int (nI k))]) hx hb dX4_strong_172 hl (k := 5) rfl (nI_inc1 i) (by decide) rfl (fun ls hl => ?_)
                        refine lv_goto (tgt := 124) hx hb dX4_strong_175 (by decide) ?_
                        exact ih_124 (i + 1) qq (by omega) (by omega) hvq _ _ hP hD hS ls (lv_sub hl [2, 3, 4, 5, 1, 0] rfl)
                      refine lv_if_ne (tgt := 165) hx hb dX4_strong_135 (by decide) (fun c_29 => ?_) (fun c_29 => ?_)
                      · skip
                        have hq := bI_ne0.mp c_29
                        have hvr : msW u_22.2.2.2.2.2.2.1 (plN x) (gMi x) (gMo x) w u_22.2.2.2.2.2.2.2.1 u_22.2.2.2.2.2.2.2.2 k 0 (u_22.1) false = msW u_22.2.2.2.2.2.2.1 (plN x) (gMi x) (gMo x) w u_22.2.2.2.2.2.2.2.1 u_22.2.2.2.2.2.2.2.2 k (i + 1) (u_22.1 - (i + 1)) true := by rw [hI, show u_22.1 - i = (u_22.1 - (i + 1)) + 1 by omega, msW, hq, Bool.true_or] <;> rfl
                        refine lv_iconst (v := nI 1) hx hb dX4_strong_165 (by decide) ?_
                        refine k_ei (y := bI true) (rfl) ?_
                        refine lv_goto (tgt := 170) hx hb dX4_strong_166 (by decide) ?_
                        exact lp_170 true hvr _ _ hP hD hS ls (lv_sub hl [0, 1, 2, 3, 5] rfl)
                      · skip
                        have hq := bI_eq0.mp c_29
                        refine lv_aload_n hx hb dX4_strong_138 rfl (lv_at hl 0 rfl) ?_
                        refine k_get hx hb hts hown hK hP iw_X4_strong_X4 rfl 0 11 fm_X4_strong_33 (by decide) rfl rfl dX4_strong_139 ?_
                        refine lv_iconst (v := nI 5) hx hb dX4_strong_142 (by decide) ?_
                        refine lv_iload hx hb dX4_strong_143 (lv_at hl 5 rfl) ?_
                        refine lv_imul hx hb dX4_strong_145 ?_
                        refine k_ei (y := nI (i * 5)) ((pk_mul _ _).trans (congrArg nI (Nat.mul_comm _ _))) ?_
                        refine lv_iload hx hb dX4_strong_146 (lv_at hl 3 rfl) ?_
                        refine lv_iadd hx hb dX4_strong_148 ?_
                        refine k_ei (y := nI (i * 5 + k)) (nI_add _ _) ?_
                        refine k_lald hx hb hK hP 6 rfl (by omega) (by omega) dX4_strong_149 ?_
                        refine lv_lconst (v := 0) hx hb dX4_strong_150 (by decide) ?_
                        refine W.lcmp hx hb dX4_strong_151 ?_
                        refine lv_if_le (tgt := 169) hx hb dX4_strong_152 (by decide) (fun c_30 => ?_) (fun c_30 => ?_)
                        · skip
                          have c_30 := (lc_le _ _).mp c_30
                          have hvr : msW u_22.2.2.2.2.2.2.1 (plN x) (gMi x) (gMo x) w u_22.2.2.2.2.2.2.2.1 u_22.2.2.2.2.2.2.2.2 k 0 (u_22.1) false = msW u_22.2.2.2.2.2.2.1 (plN x) (gMi x) (gMo x) w u_22.2.2.2.2.2.2.2.1 u_22.2.2.2.2.2.2.2.2 k (i + 1) (u_22.1 - (i + 1)) false := by rw [hI, show u_22.1 - i = (u_22.1 - (i + 1)) + 1 by omega, msW, hq, decide_eq_false (show ¬ 0 < u_22.2.2.2.2.2.2.1 (i * 5 + k) by rw [i64_lt]; rw [i64_le] at c_30; omega)] <;> rfl
                          refine lv_iconst (v := nI 0) hx hb dX4_strong_169 (by decide) ?_
                          refine k_ei (y := bI false) (rfl) ?_
                          exact lp_170 false hvr _ _ hP hD hS ls (lv_sub hl [0, 1, 2, 3, 5] rfl)
                        · skip
                          have c_30 := mt (lc_le _ _).mpr c_30
                          have hpos : decide (0 < u_22.2.2.2.2.2.2.1 (i * 5 + k)) = true := decide_eq_true (by rw [i64_lt]; rw [i64_le] at c_30; omega)
                          refine lv_aload_n hx hb dX4_strong_155 rfl (lv_at hl 0 rfl) ?_
                          refine lv_iload hx hb dX4_strong_156 (lv_at hl 5 rfl) ?_
                          refine lv_iload_n hx hb dX4_strong_158 rfl (lv_at hl 2 rfl) ?_
                          refine go_i (wc := [(md 0, .inr (4, [.int (gXt u_2), .int (nI (gMi u_2)), .int (nI (gMo u_2)), .int (nI (gMw u_2)), .ref (md 1), .ref (md 2), .ref (md 3), .int (nI (gNi u_2)), .int (nI (gNo u_2)), .ref (md 4), .ref (md 5), .ref (md 6), .int (nI u_22.1), .ref (md 7), .ref (md 8), .int (nI u_22.2.1), .int (nI u_22.2.2.1), .ref (md 9), .long (u_22.2.2.2.2.2.2.2.1), .long (u_22.2.2.2.2.2.2.2.2), .long (gWt u_2), .long (gWb u_2)])), (md 4, aI g 48 (gNu u_2)), (md 6, aJ g 13000 u_22.2.2.2.2.2.2.1)]) (wr := [(md 1, aI g 48 (gLo u_2)), (md 2, aI g 48 (gHi u_2)), (md 3, aZ g 12 (gTr u_2)), (md 5, aZ g 12 (gAm u_2)), (md 7, aJ g 85 u_22.2.2.2.1), (md 8, aJ g 5 u_22.2.2.2.2.2.1), (md 9, aI g 5 (fun j => nI (u_22.2.2.2.2.1 j)))]) hP hD hS hA [0, 4, 6] [1, 2, 3, 5, 7, 8, 9] rfl rfl rfl rfl (by decide) (fun hPc hDc => rn_V (As := [.int (nI i), .int (nI w)]) (rest := []) ⟨hx, hb, hml, hown, hts⟩ ((c_X4_isBest l g md (gXt u_2) (gMi u_2) (gMo u_2) (gMw u_2) (gNi u_2) (gNo u_2) u_22.1 u_22.2.1 u_22.2.2.1 u_22.2.2.2.2.2.2.2.1 u_22.2.2.2.2.2.2.2.2 (gWt u_2) (gWb u_2) (gNu u_2) u_22.2.2.2.2.2.2.1 i w (by omega) (by omega) (by omega) (by omega)) _) (cw_X4_strong_167_1_25 hts hN ⟨Nat.le_of_ble_eq_true rfl, Nat.le_of_ble_eq_true rfl⟩) hK hN hPc hDc 0 rfl rfl rfl rfl hl.1 (Nat.le_of_ble_eq_true rfl) dX4_strong_159 ⟨Nat.le_of_ble_eq_true rfl, Nat.le_of_ble_eq_true rfl⟩) ?_
                          intro r_31 u_32 H locs h_33 hP hD hS
                          have hP : va_P g.1 vwCl [(md 0, .inr (4, [.int (gXt u_2), .int (nI (gMi u_2)), .int (nI (gMo u_2)), .int (nI (gMw u_2)), .ref (md 1), .ref (md 2), .ref (md 3), .int (nI (gNi u_2)), .int (nI (gNo u_2)), .ref (md 4), .ref (md 5), .ref (md 6), .int (nI u_22.1), .ref (md 7), .ref (md 8), .int (nI u_22.2.1), .int (nI u_22.2.2.1), .ref (md 9), .long (u_22.2.2.2.2.2.2.2.1), .long (u_22.2.2.2.2.2.2.2.2), .long (gWt u_2), .long (gWb u_2)])), (md 1, aI g 48 (gLo u_2)), (md 2, aI g 48 (gHi u_2)), (md 3, aZ g 12 (gTr u_2)), (md 4, aI g 48 (gNu u_2)), (md 5, aZ g 12 (gAm u_2)), (md 6, aJ g 13000 u_22.2.2.2.2.2.2.1), (md 7, aJ g 85 u_22.2.2.2.1), (md 8, aJ g 5 u_22.2.2.2.2.2.1), (md 9, aI g 5 (fun j => nI (u_22.2.2.2.2.1 j)))] H := hP.sub [7, 0, 1, 2, 8, 3, 9, 4, 5, 6] rfl
                          have hD : va_D A [(md 0, .inr (4, [.int (gXt u_2), .int (nI (gMi u_2)), .int (nI (gMo u_2)), .int (nI (gMw u_2)), .ref (md 1), .ref (md 2), .ref (md 3), .int (nI (gNi u_2)), .int (nI (gNo u_2)), .ref (md 4), .ref (md 5), .ref (md 6), .int (nI u_22.1), .ref (md 7), .ref (md 8), .int (nI u_22.2.1), .int (nI u_22.2.2.1), .ref (md 9), .long (u_22.2.2.2.2.2.2.2.1), .long (u_22.2.2.2.2.2.2.2.2), .long (gWt u_2), .long (gWb u_2)])), (md 1, aI g 48 (gLo u_2)), (md 2, aI g 48 (gHi u_2)), (md 3, aZ g 12 (gTr u_2)), (md 4, aI g 48 (gNu u_2)), (md 5, aZ g 12 (gAm u_2)), (md 6, aJ g 13000 u_22.2.2.2.2.2.2.1), (md 7, aJ g 85 u_22.2.2.2.1), (md 8, aJ g 5 u_22.2.2.2.2.2.1), (md 9, aI g 5 (fun j => nI (u_22.2.2.2.2.1 j)))] := hD.sub [7, 0, 1, 2, 8, 3, 9, 4, 5, 6] rfl rfl
                          have h_33 : r_31 = bI (decide (outsW u_22.2.2.2.2.2.2.1 (gNu u_2) i w 4 (gNi u_2) (gNo u_2) * u_22.2.2.2.2.2.2.2.2 = u_22.2.2.2.2.2.2.2.1 * insW u_22.2.2.2.2.2.2.1 (gNu u_2) i w (gNi u_2))) := h_33
                          subst h_33
                          refine lv_if_eq (tgt := 169) hx hb dX4_strong_162 (by decide) (fun c_34 => ?_) (fun c_34 => ?_)
                          · skip
                            have hbe := bI_eq0.mp c_34
                            rw [hp1, hp2, hp3] at hbe
                            have hvr : msW u_22.2.2.2.2.2.2.1 (plN x) (gMi x) (gMo x) w u_22.2.2.2.2.2.2.2.1 u_22.2.2.2.2.2.2.2.2 k 0 (u_22.1) false = msW u_22.2.2.2.2.2.2.1 (plN x) (gMi x) (gMo x) w u_22.2.2.2.2.2.2.2.1 u_22.2.2.2.2.2.2.2.2 k (i + 1) (u_22.1 - (i + 1)) false := by rw [hI, show u_22.1 - i = (u_22.1 - (i + 1)) + 1 by omega, msW, hq, hpos, hbe] <;> rfl
                            refine lv_iconst (v := nI 0) hx hb dX4_strong_169 (by decide) ?_
                            refine k_ei (y := bI false) (rfl) ?_
                            exact lp_170 false hvr _ _ hP hD hS ls (lv_sub hl [0, 1, 2, 3, 5] rfl)
                          · skip
                            have hbe := bI_ne0.mp c_34
                            rw [hp1, hp2, hp3] at hbe
                            have hvr : msW u_22.2.2.2.2.2.2.1 (plN x) (gMi x) (gMo x) w u_22.2.2.2.2.2.2.2.1 u_22.2.2.2.2.2.2.2.2 k 0 (u_22.1) false = msW u_22.2.2.2.2.2.2.1 (plN x) (gMi x) (gMo x) w u_22.2.2.2.2.2.2.2.1 u_22.2.2.2.2.2.2.2.2 k (i + 1) (u_22.1 - (i + 1)) true := by rw [hI, show u_22.1 - i = (u_22.1 - (i + 1)) + 1 by omega, msW, hq, hpos, hbe] <;> rfl
                            refine lv_iconst (v := nI 1) hx hb dX4_strong_165 (by decide) ?_
                            refine k_ei (y := bI true) (rfl) ?_
                            refine lv_goto (tgt := 170) hx hb dX4_strong_166 (by decide) ?_
                            exact lp_170 true hvr _ _ hP hD hS ls (lv_sub hl [0, 1, 2, 3, 5] rfl)
                exact lp_124 (u_22.1 - 0 + 1) 0 false (by omega) (by omega) rfl _ _ hP hD hS ls (lv_sub hl [2, 3, 4, 5, 1, 0] rfl)
          exact lp_104 (gMi x + gMo x - 0 + 1) 0 (by omega) (by omega) rfl _ _ hP hD hS ls (lv_sub hl [2, 3, 4, 0] rfl)
        · skip
          have c_25 := (nI_eq (by omega) (by omega)).mp c_25
          omega
      · skip
        have c_24 := mt (lc_eq _ _).mpr c_24
        have hte := c_24
        refine lv_iconst (v := nI 0) hx hb dX4_strong_30 (by decide) ?_
        exact ret dX4_strong_31 ((gXt u_2, gMi u_2, gMo u_2, gMw u_2, gLo u_2, gHi u_2, gTr u_2, gNi u_2, gNo u_2, gNu u_2, gAm u_2, u_22.2.2.2.2.2.2.1, u_22.1, u_22.2.2.2.1, u_22.2.2.2.2.2.1, u_22.2.1, u_22.2.2.1, u_22.2.2.2.2.1, u_22.2.2.2.2.2.2.2.1, u_22.2.2.2.2.2.2.2.2, gWt u_2, gWb u_2)) (⟨hkp, Or.inl ⟨hac, Or.inr ⟨by rw [wN_n hv31]; exact hv2, _, _, _, _, by rw [wN_n hw31, wN_n hv31]; exact hsq, Or.inl ⟨hte, rfl⟩⟩⟩⟩) hP hD hS
  · skip
    have hno := asP_0 hask c_4
    refine lv_iconst (v := -1) hx hb dX4_strong_9 (by decide) ?_
    exact ret dX4_strong_10 ((gXt u_2, gMi u_2, gMo u_2, gMw u_2, gLo u_2, gHi u_2, gTr u_2, gNi u_2, gNo u_2, gNu u_2, gAm u_2, gSd u_2, gNs u_2, gBd u_2, gWy u_2, gNb u_2, gWd u_2, (gCh u_2), gTp u_2, gBl u_2, gWt u_2, gWb u_2)) (⟨hkp, Or.inr ⟨hno, rfl⟩⟩) hP hD hS
theorem cw_X4_peer_154_2_42 {R : Room} {s : State} {args : Array Value} (hts : ∀ w ∈ wsX4_peer, w.before args s = true) (hN : nsW s) (hR : 2 + 1 ≤ R.frames ∧ 8 + (3 + 11) + 42 ≤ R.locals) : CallW R s args RX4 RX4 154 yX4_asks cX4_asks 3 (some .boolean) wsX4_asks { frames := 2, cells := 0, slots := 0, locals := 42 } 0 0 2 := cwV 2 hts gX4_peer_X4_asks rfl rfl rfl ⟨rfl, hdn_X4_asks⟩ hR
theorem cw_X4_peer_60_0_0 {R : Room} {s : State} {args : Array Value} (hts : ∀ w ∈ wsX4_peer, w.before args s = true) (hN : nsW s) (hR : 0 + 1 ≤ R.frames ∧ 8 + (2 + 11) + 0 ≤ R.locals) : CallW R s args RX4 RX4 60 yX4_isWork cX4_isWork 2 (some .boolean) wsX4_isWork { frames := 0, cells := 0, slots := 0, locals := 0 } 0 0 1 := cwV 1 hts gX4_peer_X4_isWork rfl rfl rfl ⟨rfl, hdn_X4_isWork⟩ hR
theorem iw_X4_peer_X4 : ∀ w ∈ wsX40, w ∈ wsX4_peer := fun w h => List.mem_cons_of_mem _ (List.mem_append_right _ h)
theorem fm_X4_peer_23 : Cond.fieldLink RX4 23 "EdgeBenchModel" "there" "[Z" ∈ wsX4_peer := List.mem_of_getElem? (i := 1) rfl
theorem cw_X4_peer_157_2_50 {R : Room} {s : State} {args : Array Value} (hts : ∀ w ∈ wsX4_peer, w.before args s = true) (hN : nsW s) (hR : 2 + 1 ≤ R.frames ∧ 8 + (9 + 11) + 50 ≤ R.locals) : CallW R s args RX4 RX4 157 yX4_shares cX4_shares 9 (some .boolean) wsX4_shares { frames := 2, cells := 0, slots := 0, locals := 50 } 0 0 2 := cwV 2 hts gX4_peer_X4_shares rfl rfl rfl ⟨rfl, hdn_X4_shares⟩ hR
theorem cw_X4_peer_140_0_0 {R : Room} {s : State} {args : Array Value} (hts : ∀ w ∈ wsX4_peer, w.before args s = true) (hN : nsW s) (hR : 0 + 1 ≤ R.frames ∧ 8 + (8 + 11) + 0 ≤ R.locals) : CallW R s args RX4 RX4 140 yX4_oneFor cX4_oneFor 8 (some .boolean) wsX4_oneFor { frames := 0, cells := 0, slots := 0, locals := 0 } 0 0 2 := cwV 2 hts gX4_peer_X4_oneFor rfl rfl rfl ⟨rfl, hdn_X4_oneFor⟩ hR
theorem fm_X4_peer_134 : Cond.fieldLink RX4 134 "EdgeBenchModel" "wholeTop" "J" ∈ wsX4_peer := List.mem_of_getElem? (i := 2) rfl
theorem fm_X4_peer_125 : Cond.fieldLink RX4 125 "EdgeBenchModel" "below" "J" ∈ wsX4_peer := List.mem_of_getElem? (i := 3) rfl
theorem fm_X4_peer_121 : Cond.fieldLink RX4 121 "EdgeBenchModel" "top" "J" ∈ wsX4_peer := List.mem_of_getElem? (i := 4) rfl
theorem fm_X4_peer_137 : Cond.fieldLink RX4 137 "EdgeBenchModel" "wholeBelow" "J" ∈ wsX4_peer := List.mem_of_getElem? (i := 5) rfl
theorem cw_X4_peer_157_12_299 {R : Room} {s : State} {args : Array Value} (hts : ∀ w ∈ wsX4_peer, w.before args s = true) (hN : nsW s) (hR : 12 + 1 ≤ R.frames ∧ 8 + (9 + 11) + 299 ≤ R.locals) : CallW R s args RX4 RX4 157 yX4_shares cX4_shares 9 (some .boolean) wsX4_shares { frames := 12, cells := 0, slots := 0, locals := 299 } 0 0 2 := cwV 2 hts gX4_peer_X4_shares rfl rfl rfl ⟨rfl, hdn_X4_shares⟩ hR
theorem fm_X4_peer_81 : Cond.fieldLink RX4 81 "EdgeBenchModel" "sides" "I" ∈ wsX4_peer := List.mem_of_getElem? (i := 6) rfl
theorem cw_X4_peer_167_1_25 {R : Room} {s : State} {args : Array Value} (hts : ∀ w ∈ wsX4_peer, w.before args s = true) (hN : nsW s) (hR : 1 + 1 ≤ R.frames ∧ 8 + (3 + 11) + 25 ≤ R.locals) : CallW R s args RX4 RX4 167 yX4_isBest cX4_isBest 3 (some .boolean) wsX4_isBest { frames := 1, cells := 0, slots := 0, locals := 25 } 0 0 2 := cwV 2 hts gX4_peer_X4_isBest rfl rfl rfl ⟨rfl, hdn_X4_isBest⟩ hR
theorem cw_X4_peer_131_0_0 {R : Room} {s : State} {args : Array Value} (hts : ∀ w ∈ wsX4_peer, w.before args s = true) (hN : nsW s) (hR : 0 + 1 ≤ R.frames ∧ 8 + (6 + 11) + 0 ≤ R.locals) : CallW R s args RX4 RX4 131 yX4_outWeighed cX4_outWeighed 6 (some .long) wsX4_outWeighed { frames := 0, cells := 0, slots := 0, locals := 0 } 0 0 2 := cwV 2 hts gX4_peer_X4_outWeighed rfl rfl rfl ⟨rfl, hdn_X4_outWeighed⟩ hR
theorem cw_X4_peer_128_0_0 {R : Room} {s : State} {args : Array Value} (hts : ∀ w ∈ wsX4_peer, w.before args s = true) (hN : nsW s) (hR : 0 + 1 ≤ R.frames ∧ 8 + (6 + 11) + 0 ≤ R.locals) : CallW R s args RX4 RX4 128 yX4_inWeighed cX4_inWeighed 6 (some .long) wsX4_inWeighed { frames := 0, cells := 0, slots := 0, locals := 0 } 0 0 2 := cwV 2 hts gX4_peer_X4_inWeighed rfl rfl rfl ⟨rfl, hdn_X4_inWeighed⟩ hR
set_option maxHeartbeats 20000000 in
set_option maxRecDepth 100000 in
theorem c_X4_peer (l : Launch) (g : Gt) (md : Nat → Nat) (x : MS) (vw : Int32) (wk : Int32) (ok : Int32) (hmb : mBen x) : CI l yX4_peer wsX4_peer { frames := 13, cells := 0, slots := 0, locals := 327 } g [.ref (md 0), .int (vw), .int (wk), .int (ok)] [(md 0, .inr (4, [.int (gXt x), .int (nI (gMi x)), .int (nI (gMo x)), .int (nI (gMw x)), .ref (md 1), .ref (md 2), .ref (md 3), .int (nI (gNi x)), .int (nI (gNo x)), .ref (md 4), .ref (md 5), .ref (md 6), .int (nI (gNs x)), .ref (md 7), .ref (md 8), .int (nI (gNb x)), .int (nI (gWd x)), .ref (md 9), .long (gTp x), .long (gBl x), .long (gWt x), .long (gWb x)])), (md 1, aI g 48 (gLo x)), (md 2, aI g 48 (gHi x)), (md 3, aZ g 12 (gTr x)), (md 4, aI g 48 (gNu x)), (md 5, aZ g 12 (gAm x)), (md 6, aJ g 13000 (gSd x)), (md 7, aJ g 85 (gBd x)), (md 8, aJ g 5 (gWy x)), (md 9, aI g 5 (fun j => nI ((gCh x) j)))] (fun zr (zu : MS) => mKeep x zu ∧ mpeP x vw wk ok zr) (fun (zu : MS) => [(md 0, .inr (4, [.int (gXt zu), .int (nI (gMi zu)), .int (nI (gMo zu)), .int (nI (gMw zu)), .ref (md 1), .ref (md 2), .ref (md 3), .int (nI (gNi zu)), .int (nI (gNo zu)), .ref (md 4), .ref (md 5), .ref (md 6), .int (nI (gNs zu)), .ref (md 7), .ref (md 8), .int (nI (gNb zu)), .int (nI (gWd zu)), .ref (md 9), .long (gTp zu), .long (gBl zu), .long (gWt zu), .long (gWb zu)])), (md 1, aI g 48 (gLo zu)), (md 2, aI g 48 (gHi zu)), (md 3, aZ g 12 (gTr zu)), (md 4, aI g 48 (gNu zu)), (md 5, aZ g 12 (gAm zu)), (md 6, aJ g 13000 (gSd zu)), (md 7, aJ g 85 (gBd zu)), (md 8, aJ g 5 (gWy zu)), (md 9, aI g 5 (fun j => nI ((gCh zu) j)))]) 0 0 := by
  refine ent_i (cc := cX4_peer) (maxL := 6) (by decide) rfl (Nat.le_of_ble_eq_true rfl) ?_
  intro p e s m below meth c A args Q hE ret ls hl
  obtain ⟨hx, hb, hml, hown, hts, hnm, hA, hP, hD, hK, hN⟩ := hE
  have hS : va_S A s.heap s.heap [] := va_S.rf
  have hl : lv_has ls 6 [(0, .ref (md 0)), (1, .int (vw)), (2, .int (wk)), (3, .int (ok))] := hl
  have hP : va_P g.1 vwCl [(md 0, .inr (4, [.int (gXt x), .int (nI (gMi x)), .int (nI (gMo x)), .int (nI (gMw x)), .ref (md 1), .ref (md 2), .ref (md 3), .int (nI (gNi x)), .int (nI (gNo x)), .ref (md 4), .ref (md 5), .ref (md 6), .int (nI (gNs x)), .ref (md 7), .ref (md 8), .int (nI (gNb x)), .int (nI (gWd x)), .ref (md 9), .long (gTp x), .long (gBl x), .long (gWt x), .long (gWb x)])), (md 1, aI g 48 (gLo x)), (md 2, aI g 48 (gHi x)), (md 3, aZ g 12 (gTr x)), (md 4, aI g 48 (gNu x)), (md 5, aZ g 12 (gAm x)), (md 6, aJ g 13000 (gSd x)), (md 7, aJ g 85 (gBd x)), (md 8, aJ g 5 (gWy x)), (md 9, aI g 5 (fun j => nI ((gCh x) j)))] s.heap := hP
  obtain ⟨⟨hmi1, hmi⟩, ⟨hmo1, hmo⟩, hmw, htr⟩ := id hmb
  refine lv_aload_n hx hb dX4_peer_0 rfl (lv_at hl 0 rfl) ?_
  refine lv_iload_n hx hb dX4_peer_1 rfl (lv_at hl 1 rfl) ?_
  refine lv_iload_n hx hb dX4_peer_2 rfl (lv_at hl 2 rfl) ?_
  refine go_i (wc := [(md 0, .inr (4, [.int (gXt x), .int (nI (gMi x)), .int (nI (gMo x)), .int (nI (gMw x)), .ref (md 1), .ref (md 2), .ref (md 3), .int (nI (gNi x)), .int (nI (gNo x)), .ref (md 4), .ref (md 5), .ref (md 6), .int (nI (gNs x)), .ref (md 7), .ref (md 8), .int (nI (gNb x)), .int (nI (gWd x)), .ref (md 9), .long (gTp x), .long (gBl x), .long (gWt x), .long (gWb x)])), (md 1, aI g 48 (gLo x)), (md 2, aI g 48 (gHi x)), (md 3, aZ g 12 (gTr x)), (md 4, aI g 48 (gNu x)), (md 5, aZ g 12 (gAm x)), (md 6, aJ g 13000 (gSd x)), (md 7, aJ g 85 (gBd x)), (md 8, aJ g 5 (gWy x)), (md 9, aI g 5 (fun j => nI ((gCh x) j)))]) (wr := []) hP hD hS hA [0, 1, 2, 3, 4, 5, 6, 7, 8, 9] [] rfl rfl rfl rfl (by decide) (fun hPc hDc => rn_V (As := [.int (vw), .int (wk)]) (rest := []) ⟨hx, hb, hml, hown, hts⟩ ((c_X4_asks l g md x vw wk hmb) _) (cw_X4_peer_154_2_42 hts hN ⟨Nat.le_of_ble_eq_true rfl, Nat.le_of_ble_eq_true rfl⟩) hK hN hPc hDc 0 rfl rfl rfl rfl hl.1 (Nat.le_of_ble_eq_true rfl) dX4_peer_3 ⟨Nat.le_of_ble_eq_true rfl, Nat.le_of_ble_eq_true rfl⟩) ?_
  intro r_1 u_2 H locs h_3 hP hD hS
  have hP : va_P g.1 vwCl [(md 0, .inr (4, [.int (gXt u_2), .int (nI (gMi u_2)), .int (nI (gMo u_2)), .int (nI (gMw u_2)), .ref (md 1), .ref (md 2), .ref (md 3), .int (nI (gNi u_2)), .int (nI (gNo u_2)), .ref (md 4), .ref (md 5), .ref (md 6), .int (nI (gNs u_2)), .ref (md 7), .ref (md 8), .int (nI (gNb u_2)), .int (nI (gWd u_2)), .ref (md 9), .long (gTp u_2), .long (gBl u_2), .long (gWt u_2), .long (gWb u_2)])), (md 1, aI g 48 (gLo u_2)), (md 2, aI g 48 (gHi u_2)), (md 3, aZ g 12 (gTr u_2)), (md 4, aI g 48 (gNu u_2)), (md 5, aZ g 12 (gAm u_2)), (md 6, aJ g 13000 (gSd u_2)), (md 7, aJ g 85 (gBd u_2)), (md 8, aJ g 5 (gWy u_2)), (md 9, aI g 5 (fun j => nI ((gCh u_2) j)))] H := hP.sub [0, 1, 2, 3, 4, 5, 6, 7, 8, 9] rfl
  have hD : va_D A [(md 0, .inr (4, [.int (gXt u_2), .int (nI (gMi u_2)), .int (nI (gMo u_2)), .int (nI (gMw u_2)), .ref (md 1), .ref (md 2), .ref (md 3), .int (nI (gNi u_2)), .int (nI (gNo u_2)), .ref (md 4), .ref (md 5), .ref (md 6), .int (nI (gNs u_2)), .ref (md 7), .ref (md 8), .int (nI (gNb u_2)), .int (nI (gWd u_2)), .ref (md 9), .long (gTp u_2), .long (gBl u_2), .long (gWt u_2), .long (gWb u_2)])), (md 1, aI g 48 (gLo u_2)), (md 2, aI g 48 (gHi u_2)), (md 3, aZ g 12 (gTr u_2)), (md 4, aI g 48 (gNu u_2)), (md 5, aZ g 12 (gAm u_2)), (md 6, aJ g 13000 (gSd u_2)), (md 7, aJ g 85 (gBd u_2)), (md 8, aJ g 5 (gWy u_2)), (md 9, aI g 5 (fun j => nI ((gCh u_2) j)))] := hD.sub [0, 1, 2, 3, 4, 5, 6, 7, 8, 9] rfl rfl
  have h_3 : mKeep x u_2 ∧ asP x u_2 vw wk r_1 := h_3
  obtain ⟨hkp, hask⟩ := h_3
  obtain ⟨hk1, hk2, hk3, hk4, hk5, hk6⟩ := id hkp
  refine lv_if_eq (tgt := 26) hx hb dX4_peer_6 (by decide) (fun c_4 => ?_) (fun c_4 => ?_)
  · skip
    have hno : ¬ mpeC x vw wk ok := fun q => asP_0 hask c_4 q.1
    refine lv_iconst (v := -1) hx hb dX4_peer_26 (by decide) ?_
    exact ret dX4_peer_27 ((gXt u_2, gMi u_2, gMo u_2, gMw u_2, gLo u_2, gHi u_2, gTr u_2, gNi u_2, gNo u_2, gNu u_2, gAm u_2, gSd u_2, gNs u_2, gBd u_2, gWy u_2, gNb u_2, gWd u_2, (gCh u_2), gTp u_2, gBl u_2, gWt u_2, gWb u_2)) (⟨hkp, Or.inr ⟨hno, rfl⟩⟩) hP hD hS
  · skip
    obtain ⟨hac, hp1, hp2, hp3, hp4⟩ := asP_1 hask c_4
    refine lv_aload_n hx hb dX4_peer_9 rfl (lv_at hl 0 rfl) ?_
    refine lv_iload_n hx hb dX4_peer_10 rfl (lv_at hl 3 rfl) ?_
    refine go_i (wc := [(md 0, .inr (4, [.int (gXt u_2), .int (nI (gMi u_2)), .int (nI (gMo u_2)), .int (nI (gMw u_2)), .ref (md 1), .ref (md 2), .ref (md 3), .int (nI (gNi u_2)), .int (nI (gNo u_2)), .ref (md 4), .ref (md 5), .ref (md 6), .int (nI (gNs u_2)), .ref (md 7), .ref (md 8), .int (nI (gNb u_2)), .int (nI (gWd u_2)), .ref (md 9), .long (gTp u_2), .long (gBl u_2), .long (gWt u_2), .long (gWb u_2)]))]) (wr := [(md 1, aI g 48 (gLo u_2)), (md 2, aI g 48 (gHi u_2)), (md 3, aZ g 12 (gTr u_2)), (md 4, aI g 48 (gNu u_2)), (md 5, aZ g 12 (gAm u_2)), (md 6, aJ g 13000 (gSd u_2)), (md 7, aJ g 85 (gBd u_2)), (md 8, aJ g 5 (gWy u_2)), (md 9, aI g 5 (fun j => nI ((gCh u_2) j)))]) hP hD hS hA [0] [1, 2, 3, 4, 5, 6, 7, 8, 9] rfl rfl rfl rfl (by decide) (fun hPc hDc => rn_V (As := [.int (ok)]) (rest := []) ⟨hx, hb, hml, hown, hts⟩ ((c_X4_isWork l g md (gXt u_2) (gMi u_2) (gMo u_2) (gMw u_2) (gNi u_2) (gNo u_2) (gNs u_2) (gNb u_2) (gWd u_2) (gTp u_2) (gBl u_2) (gWt u_2) (gWb u_2) ok (by omega)) _) (cw_X4_peer_60_0_0 hts hN ⟨Nat.le_of_ble_eq_true rfl, Nat.le_of_ble_eq_true rfl⟩) hK hN hPc hDc 0 rfl rfl rfl rfl hl.1 (Nat.le_of_ble_eq_true rfl) dX4_peer_11 ⟨Nat.le_of_ble_eq_true rfl, Nat.le_of_ble_eq_true rfl⟩) ?_
    intro r_5 u_6 H locs h_7 hP hD hS
    have hP : va_P g.1 vwCl [(md 0, .inr (4, [.int (gXt u_2), .int (nI (gMi u_2)), .int (nI (gMo u_2)), .int (nI (gMw u_2)), .ref (md 1), .ref (md 2), .ref (md 3), .int (nI (gNi u_2)), .int (nI (gNo u_2)), .ref (md 4), .ref (md 5), .ref (md 6), .int (nI (gNs u_2)), .ref (md 7), .ref (md 8), .int (nI (gNb u_2)), .int (nI (gWd u_2)), .ref (md 9), .long (gTp u_2), .long (gBl u_2), .long (gWt u_2), .long (gWb u_2)])), (md 1, aI g 48 (gLo u_2)), (md 2, aI g 48 (gHi u_2)), (md 3, aZ g 12 (gTr u_2)), (md 4, aI g 48 (gNu u_2)), (md 5, aZ g 12 (gAm u_2)), (md 6, aJ g 13000 (gSd u_2)), (md 7, aJ g 85 (gBd u_2)), (md 8, aJ g 5 (gWy u_2)), (md 9, aI g 5 (fun j => nI ((gCh u_2) j)))] H := hP.sub [9, 0, 1, 2, 3, 4, 5, 6, 7, 8] rfl
    have hD : va_D A [(md 0, .inr (4, [.int (gXt u_2), .int (nI (gMi u_2)), .int (nI (gMo u_2)), .int (nI (gMw u_2)), .ref (md 1), .ref (md 2), .ref (md 3), .int (nI (gNi u_2)), .int (nI (gNo u_2)), .ref (md 4), .ref (md 5), .ref (md 6), .int (nI (gNs u_2)), .ref (md 7), .ref (md 8), .int (nI (gNb u_2)), .int (nI (gWd u_2)), .ref (md 9), .long (gTp u_2), .long (gBl u_2), .long (gWt u_2), .long (gWb u_2)])), (md 1, aI g 48 (gLo u_2)), (md 2, aI g 48 (gHi u_2)), (md 3, aZ g 12 (gTr u_2)), (md 4, aI g 48 (gNu u_2)), (md 5, aZ g 12 (gAm u_2)), (md 6, aJ g 13000 (gSd u_2)), (md 7, aJ g 85 (gBd u_2)), (md 8, aJ g 5 (gWy u_2)), (md 9, aI g 5 (fun j => nI ((gCh u_2) j)))] := hD.sub [9, 0, 1, 2, 3, 4, 5, 6, 7, 8] rfl rfl
    have h_7 : r_5 = bI (inR ok (gMw u_2)) := h_7
    subst h_7
    refine lv_if_eq (tgt := 26) hx hb dX4_peer_14 (by decide) (fun c_8 => ?_) (fun c_8 => ?_)
    · skip
      have hno : ¬ mpeC x vw wk ok := fun q => absurd (bI_eq0.mp c_8) (by rw [hk3, q.2.1]; decide)
      refine lv_iconst (v := -1) hx hb dX4_peer_26 (by decide) ?_
      exact ret dX4_peer_27 ((gXt u_2, gMi u_2, gMo u_2, gMw u_2, gLo u_2, gHi u_2, gTr u_2, gNi u_2, gNo u_2, gNu u_2, gAm u_2, gSd u_2, gNs u_2, gBd u_2, gWy u_2, gNb u_2, gWd u_2, (gCh u_2), gTp u_2, gBl u_2, gWt u_2, gWb u_2)) (⟨hkp, Or.inr ⟨hno, rfl⟩⟩) hP hD hS
    · skip
      have ho1 := bI_ne0.mp c_8
      rw [hk3] at ho1
      obtain ⟨o, ho, ho31, hoo9⟩ := inR_nI ho1
      subst hoo9
      refine lv_aload_n hx hb dX4_peer_17 rfl (lv_at hl 0 rfl) ?_
      refine k_get hx hb hts hown hK hP iw_X4_peer_X4 rfl 0 6 fm_X4_peer_23 (by decide) rfl rfl dX4_peer_18 ?_
      refine lv_iload_n hx hb dX4_peer_21 rfl (lv_at hl 3 rfl) ?_
      refine k_zald hx hb hK hP 3 rfl (by omega) (by omega) dX4_peer_22 ?_
      refine lv_if_ne (tgt := 28) hx hb dX4_peer_23 (by decide) (fun c_9 => ?_) (fun c_9 => ?_)
      · skip
        have hot : ¬ gTr x (wN (nI o)) = 0 := by rw [wN_n ho31, ← hk6]; exact c_9
        obtain ⟨v, hvv, hv0, hv3, hv31⟩ := isI_get (by decide) (by decide) hac.1
        obtain ⟨w, hw, hw31, hww⟩ := inR_nI hac.2.1
        subst hvv
        subst hww
        have hwm : w < 12 := by omega
        have hpc : mpeC x (nI v) (nI w) (nI o) := ⟨hac, ho1, hot⟩
        rcases (show v = 3 ∨ v ≤ 2 by omega) with rfl | hv2
        · skip
          refine lv_aload_n hx hb dX4_peer_28 rfl (lv_at hl 0 rfl) ?_
          refine lv_iload_n hx hb dX4_peer_29 rfl (lv_at hl 1 rfl) ?_
          refine lv_iload_n hx hb dX4_peer_30 rfl (lv_at hl 2 rfl) ?_
          refine go_i (wc := [(md 0, .inr (4, [.int (gXt u_2), .int (nI (gMi u_2)), .int (nI (gMo u_2)), .int (nI (gMw u_2)), .ref (md 1), .ref (md 2), .ref (md 3), .int (nI (gNi u_2)), .int (nI (gNo u_2)), .ref (md 4), .ref (md 5), .ref (md 6), .int (nI (gNs u_2)), .ref (md 7), .ref (md 8), .int (nI (gNb u_2)), .int (nI (gWd u_2)), .ref (md 9), .long (gTp u_2), .long (gBl u_2), .long (gWt u_2), .long (gWb u_2)])), (md 4, aI g 48 (gNu u_2)), (md 5, aZ g 12 (gAm u_2))]) (wr := [(md 1, aI g 48 (gLo u_2)), (md 2, aI g 48 (gHi u_2)), (md 3, aZ g 12 (gTr u_2)), (md 6, aJ g 13000 (gSd u_2)), (md 7, aJ g 85 (gBd u_2)), (md 8, aJ g 5 (gWy u_2)), (md 9, aI g 5 (fun j => nI ((gCh u_2) j)))]) hP hD hS hA [0, 4, 5] [1, 2, 3, 6, 7, 8, 9] rfl rfl rfl rfl (by decide) (fun hPc hDc => rn_V (As := [.int (nI 3), .int (nI w)]) (rest := []) ⟨hx, hb, hml, hown, hts⟩ ((c_X4_shares3 l g md (gXt u_2) (gMi u_2) (gMo u_2) (gMw u_2) (gNi u_2) (gNo u_2) (gNs u_2) (gNb u_2) (gWd u_2) (gTp u_2) (gBl u_2) (gWt u_2) (gWb u_2) (gNu u_2) (gAm u_2) w (by omega) (by omega) (by omega) (by omega)) _) (cw_X4_peer_157_2_50 hts hN ⟨Nat.le_of_ble_eq_true rfl, Nat.le_of_ble_eq_true rfl⟩) hK hN hPc hDc 0 rfl rfl rfl rfl hl.1 (Nat.le_of_ble_eq_true rfl) dX4_peer_31 ⟨Nat.le_of_ble_eq_true rfl, Nat.le_of_ble_eq_true rfl⟩) ?_
          intro r_10 u_11 H locs h_12 hP hD hS
          have hP : va_P g.1 vwCl [(md 0, .inr (4, [.int (gXt u_2), .int (nI (gMi u_2)), .int (nI (gMo u_2)), .int (nI (gMw u_2)), .ref (md 1), .ref (md 2), .ref (md 3), .int (nI (gNi u_2)), .int (nI (gNo u_2)), .ref (md 4), .ref (md 5), .ref (md 6), .int (nI (gNs u_2)), .ref (md 7), .ref (md 8), .int (nI (gNb u_2)), .int (nI (gWd u_2)), .ref (md 9), .long (u_11.1), .long (u_11.2.1), .long (u_11.2.2.1), .long (u_11.2.2.2)])), (md 1, aI g 48 (gLo u_2)), (md 2, aI g 48 (gHi u_2)), (md 3, aZ g 12 (gTr u_2)), (md 4, aI g 48 (gNu u_2)), (md 5, aZ g 12 (gAm u_2)), (md 6, aJ g 13000 (gSd u_2)), (md 7, aJ g 85 (gBd u_2)), (md 8, aJ g 5 (gWy u_2)), (md 9, aI g 5 (fun j => nI ((gCh u_2) j)))] H := hP.sub [7, 0, 1, 2, 8, 9, 3, 4, 5, 6] rfl
          have hD : va_D A [(md 0, .inr (4, [.int (gXt u_2), .int (nI (gMi u_2)), .int (nI (gMo u_2)), .int (nI (gMw u_2)), .ref (md 1), .ref (md 2), .ref (md 3), .int (nI (gNi u_2)), .int (nI (gNo u_2)), .ref (md 4), .ref (md 5), .ref (md 6), .int (nI (gNs u_2)), .ref (md 7), .ref (md 8), .int (nI (gNb u_2)), .int (nI (gWd u_2)), .ref (md 9), .long (u_11.1), .long (u_11.2.1), .long (u_11.2.2.1), .long (u_11.2.2.2)])), (md 1, aI g 48 (gLo u_2)), (md 2, aI g 48 (gHi u_2)), (md 3, aZ g 12 (gTr u_2)), (md 4, aI g 48 (gNu u_2)), (md 5, aZ g 12 (gAm u_2)), (md 6, aJ g 13000 (gSd u_2)), (md 7, aJ g 85 (gBd u_2)), (md 8, aJ g 5 (gWy u_2)), (md 9, aI g 5 (fun j => nI ((gCh u_2) j)))] := hD.sub [7, 0, 1, 2, 8, 9, 3, 4, 5, 6] rfl rfl
          have h_12 : shW (gNu u_2) (gAm u_2) (gNi u_2) (gNo u_2) (gMw u_2) w (gTp u_2) (gBl u_2) (gWt u_2) (gWb u_2) r_10 u_11.1 u_11.2.1 := h_12
          have hsh := h_12
          rw [hp1, hp2, hp3, hp4, hk3] at hsh
          refine lv_istore (lv' := [(4, .int (r_10)), (0, .ref (md 0)), (1, .int (nI 3)), (2, .int (nI w)), (3, .int (nI o))]) hx hb dX4_peer_34 hl (by decide) rfl (fun ls hl => ?_)
          refine lv_iload_n hx hb dX4_peer_36 rfl (lv_at hl 2 rfl) ?_
          refine lv_iconst (v := nI 3) hx hb dX4_peer_37 (by decide) ?_
          refine lv_icmp_ne (tgt := 78) hx hb dX4_peer_38 (by decide) (fun c_13 => ?_) (fun c_13 => ?_)
          · skip
            have c_13 := mt (nI_eq (by omega) (by omega)).mpr c_13
            omega
          · skip
            have c_13 := (nI_eq (by omega) (by omega)).mp c_13
            refine lv_aload_n hx hb dX4_peer_41 rfl (lv_at hl 1 rfl) ?_
            refine lv_iload_n hx hb dX4_peer_42 rfl (lv_at hl 4 rfl) ?_
            refine lv_iload_n hx hb dX4_peer_43 rfl (lv_at hl 3 rfl) ?_
            refine go_i (wc := [(md 0, .inr (4, [.int (gXt u_2), .int (nI (gMi u_2)), .int (nI (gMo u_2)), .int (nI (gMw u_2)), .ref (md 1), .ref (md 2), .ref (md 3), .int (nI (gNi u_2)), .int (nI (gNo u_2)), .ref (md 4), .ref (md 5), .ref (md 6), .int (nI (gNs u_2)), .ref (md 7), .ref (md 8), .int (nI (gNb u_2)), .int (nI (gWd u_2)), .ref (md 9), .long (u_11.1), .long (u_11.2.1), .long (u_11.2.2.1), .long (u_11.2.2.2)])), (md 4, aI g 48 (gNu u_2))]) (wr := [(md 1, aI g 48 (gLo u_2)), (md 2, aI g 48 (gHi u_2)), (md 3, aZ g 12 (gTr u_2)), (md 5, aZ g 12 (gAm u_2)), (md 6, aJ g 13000 (gSd u_2)), (md 7, aJ g 85 (gBd u_2)), (md 8, aJ g 5 (gWy u_2)), (md 9, aI g 5 (fun j => nI ((gCh u_2) j)))]) hP hD hS hA [0, 4] [1, 2, 3, 5, 6, 7, 8, 9] rfl rfl rfl rfl (by decide) (fun hPc hDc => rn_V (As := [.int (nI o), .int (nI w)]) (rest := []) ⟨hx, hb, hml, hown, hts⟩ ((c_X4_oneFor l g md (gXt u_2) (gMi u_2) (gMo u_2) (gMw u_2) (gNi u_2) (gNo u_2) (gNs u_2) (gNb u_2) (gWd u_2) u_11.1 u_11.2.1 u_11.2.2.1 u_11.2.2.2 (gNu u_2) o w (by omega) (by omega) (by omega) (by omega)) _) (cw_X4_peer_140_0_0 hts hN ⟨Nat.le_of_ble_eq_true rfl, Nat.le_of_ble_eq_true rfl⟩) hK hN hPc hDc 0 rfl rfl rfl rfl hl.1 (Nat.le_of_ble_eq_true rfl) dX4_peer_44 ⟨Nat.le_of_ble_eq_true rfl, Nat.le_of_ble_eq_true rfl⟩) ?_
            intro r_14 u_15 H locs h_16 hP hD hS
            have hP : va_P g.1 vwCl [(md 0, .inr (4, [.int (gXt u_2), .int (nI (gMi u_2)), .int (nI (gMo u_2)), .int (nI (gMw u_2)), .ref (md 1), .ref (md 2), .ref (md 3), .int (nI (gNi u_2)), .int (nI (gNo u_2)), .ref (md 4), .ref (md 5), .ref (md 6), .int (nI (gNs u_2)), .ref (md 7), .ref (md 8), .int (nI (gNb u_2)), .int (nI (gWd u_2)), .ref (md 9), .long (u_11.1), .long (u_11.2.1), .long ((oneF (gNu u_2) (gNi u_2) (gNo u_2) o w (u_11.2.2.1, u_11.2.2.2)).2.1), .long ((oneF (gNu u_2) (gNi u_2) (gNo u_2) o w (u_11.2.2.1, u_11.2.2.2)).2.2)])), (md 1, aI g 48 (gLo u_2)), (md 2, aI g 48 (gHi u_2)), (md 3, aZ g 12 (gTr u_2)), (md 4, aI g 48 (gNu u_2)), (md 5, aZ g 12 (gAm u_2)), (md 6, aJ g 13000 (gSd u_2)), (md 7, aJ g 85 (gBd u_2)), (md 8, aJ g 5 (gWy u_2)), (md 9, aI g 5 (fun j => nI ((gCh u_2) j)))] H := hP.sub [8, 0, 1, 2, 9, 3, 4, 5, 6, 7] rfl
            have hD : va_D A [(md 0, .inr (4, [.int (gXt u_2), .int (nI (gMi u_2)), .int (nI (gMo u_2)), .int (nI (gMw u_2)), .ref (md 1), .ref (md 2), .ref (md 3), .int (nI (gNi u_2)), .int (nI (gNo u_2)), .ref (md 4), .ref (md 5), .ref (md 6), .int (nI (gNs u_2)), .ref (md 7), .ref (md 8), .int (nI (gNb u_2)), .int (nI (gWd u_2)), .ref (md 9), .long (u_11.1), .long (u_11.2.1), .long ((oneF (gNu u_2) (gNi u_2) (gNo u_2) o w (u_11.2.2.1, u_11.2.2.2)).2.1), .long ((oneF (gNu u_2) (gNi u_2) (gNo u_2) o w (u_11.2.2.1, u_11.2.2.2)).2.2)])), (md 1, aI g 48 (gLo u_2)), (md 2, aI g 48 (gHi u_2)), (md 3, aZ g 12 (gTr u_2)), (md 4, aI g 48 (gNu u_2)), (md 5, aZ g 12 (gAm u_2)), (md 6, aJ g 13000 (gSd u_2)), (md 7, aJ g 85 (gBd u_2)), (md 8, aJ g 5 (gWy u_2)), (md 9, aI g 5 (fun j => nI ((gCh u_2) j)))] := hD.sub [8, 0, 1, 2, 9, 3, 4, 5, 6, 7] rfl rfl
            have h_16 : r_14 = bI (oneF (gNu u_2) (gNi u_2) (gNo u_2) o w (u_11.2.2.1, u_11.2.2.2)).1 := h_16
            subst h_16
            refine lv_if_eq (tgt := 76) hx hb dX4_peer_47 (by decide) (fun c_17 => ?_) (fun c_17 => ?_)
            · skip
              have heq : oneF (gNu u_2) (gNi u_2) (gNo u_2) o w (u_11.2.2.1, u_11.2.2.2) = oneF (plN x) (gMi x) (gMo x) o w (u_11.2.2.1, u_11.2.2.2) := by rw [hp1, hp2, hp3]
              have h1 := bI_eq0.mp c_17
              rw [heq] at h1
              have hres : bI ((oneF (plN x) (gMi x) (gMo x) o w (u_11.2.2.1, u_11.2.2.2)).1 && decide ((oneF (plN x) (gMi x) (gMo x) o w (u_11.2.2.1, u_11.2.2.2)).2.1 * u_11.2.1 = u_11.1 * (oneF (plN x) (gMi x) (gMo x) o w (u_11.2.2.1, u_11.2.2.2)).2.2)) = nI 0 := by rw [h1]; rfl
              refine lv_iconst (v := nI 0) hx hb dX4_peer_76 (by decide) ?_
              exact ret dX4_peer_77 ((gXt u_2, gMi u_2, gMo u_2, gMw u_2, gLo u_2, gHi u_2, gTr u_2, gNi u_2, gNo u_2, gNu u_2, gAm u_2, gSd u_2, gNs u_2, gBd u_2, gWy u_2, gNb u_2, gWd u_2, (gCh u_2), u_11.1, u_11.2.1, (oneF (gNu u_2) (gNi u_2) (gNo u_2) o w (u_11.2.2.1, u_11.2.2.2)).2.1, (oneF (gNu u_2) (gNi u_2) (gNo u_2) o w (u_11.2.2.1, u_11.2.2.2)).2.2)) (⟨hkp, Or.inl ⟨hpc, Or.inl ⟨wN_n (by decide), _, _, _, ⟨_, _, _, _, by rw [wN_n hw31]; exact hsh⟩, (u_11.2.2.1, u_11.2.2.2), by rw [wN_n hw31, wN_n ho31]; exact hres.symm⟩⟩⟩) hP hD hS
            · skip
              have heq : oneF (gNu u_2) (gNi u_2) (gNo u_2) o w (u_11.2.2.1, u_11.2.2.2) = oneF (plN x) (gMi x) (gMo x) o w (u_11.2.2.1, u_11.2.2.2) := by rw [hp1, hp2, hp3]
              have h1 := bI_ne0.mp c_17
              rw [heq] at h1
              refine lv_aload_n hx hb dX4_peer_50 rfl (lv_at hl 1 rfl) ?_
              refine k_get hx hb hts hown hK hP iw_X4_peer_X4 rfl 0 20 fm_X4_peer_134 (by decide) rfl rfl dX4_peer_51 ?_
              refine lv_aload_n hx hb dX4_peer_54 rfl (lv_at hl 1 rfl) ?_
              refine k_get hx hb hts hown hK hP iw_X4_peer_X4 rfl 0 19 fm_X4_peer_125 (by decide) rfl rfl dX4_peer_55 ?_
              refine lv_lmul hx hb dX4_peer_58 ?_
              refine lv_aload_n hx hb dX4_peer_59 rfl (lv_at hl 1 rfl) ?_
              refine k_get hx hb hts hown hK hP iw_X4_peer_X4 rfl 0 18 fm_X4_peer_121 (by decide) rfl rfl dX4_peer_60 ?_
              refine lv_aload_n hx hb dX4_peer_63 rfl (lv_at hl 1 rfl) ?_
              refine k_get hx hb hts hown hK hP iw_X4_peer_X4 rfl 0 21 fm_X4_peer_137 (by decide) rfl rfl dX4_peer_64 ?_
              refine lv_lmul hx hb dX4_peer_67 ?_
              refine W.lcmp hx hb dX4_peer_68 ?_
              refine lv_if_ne (tgt := 76) hx hb dX4_peer_69 (by decide) (fun c_18 => ?_) (fun c_18 => ?_)
              · skip
                have c_18 := mt (lc_eq _ _).mpr c_18
                have h2 := c_18
                rw [heq] at h2
                have hres : bI ((oneF (plN x) (gMi x) (gMo x) o w (u_11.2.2.1, u_11.2.2.2)).1 && decide ((oneF (plN x) (gMi x) (gMo x) o w (u_11.2.2.1, u_11.2.2.2)).2.1 * u_11.2.1 = u_11.1 * (oneF (plN x) (gMi x) (gMo x) o w (u_11.2.2.1, u_11.2.2.2)).2.2)) = nI 0 := by rw [h1, decide_eq_false h2]; rfl
                refine lv_iconst (v := nI 0) hx hb dX4_peer_76 (by decide) ?_
                exact ret dX4_peer_77 ((gXt u_2, gMi u_2, gMo u_2, gMw u_2, gLo u_2, gHi u_2, gTr u_2, gNi u_2, gNo u_2, gNu u_2, gAm u_2, gSd u_2, gNs u_2, gBd u_2, gWy u_2, gNb u_2, gWd u_2, (gCh u_2), u_11.1, u_11.2.1, (oneF (gNu u_2) (gNi u_2) (gNo u_2) o w (u_11.2.2.1, u_11.2.2.2)).2.1, (oneF (gNu u_2) (gNi u_2) (gNo u_2) o w (u_11.2.2.1, u_11.2.2.2)).2.2)) (⟨hkp, Or.inl ⟨hpc, Or.inl ⟨wN_n (by decide), _, _, _, ⟨_, _, _, _, by rw [wN_n hw31]; exact hsh⟩, (u_11.2.2.1, u_11.2.2.2), by rw [wN_n hw31, wN_n ho31]; exact hres.symm⟩⟩⟩) hP hD hS
              · skip
                have c_18 := (lc_eq _ _).mp c_18
                have h2 := c_18
                rw [heq] at h2
                have hres : bI ((oneF (plN x) (gMi x) (gMo x) o w (u_11.2.2.1, u_11.2.2.2)).1 && decide ((oneF (plN x) (gMi x) (gMo x) o w (u_11.2.2.1, u_11.2.2.2)).2.1 * u_11.2.1 = u_11.1 * (oneF (plN x) (gMi x) (gMo x) o w (u_11.2.2.1, u_11.2.2.2)).2.2)) = nI 1 := by rw [h1, decide_eq_true h2]; rfl
                refine lv_iconst (v := nI 1) hx hb dX4_peer_72 (by decide) ?_
                refine lv_goto (tgt := 77) hx hb dX4_peer_73 (by decide) ?_
                exact ret dX4_peer_77 ((gXt u_2, gMi u_2, gMo u_2, gMw u_2, gLo u_2, gHi u_2, gTr u_2, gNi u_2, gNo u_2, gNu u_2, gAm u_2, gSd u_2, gNs u_2, gBd u_2, gWy u_2, gNb u_2, gWd u_2, (gCh u_2), u_11.1, u_11.2.1, (oneF (gNu u_2) (gNi u_2) (gNo u_2) o w (u_11.2.2.1, u_11.2.2.2)).2.1, (oneF (gNu u_2) (gNi u_2) (gNo u_2) o w (u_11.2.2.1, u_11.2.2.2)).2.2)) (⟨hkp, Or.inl ⟨hpc, Or.inl ⟨wN_n (by decide), _, _, _, ⟨_, _, _, _, by rw [wN_n hw31]; exact hsh⟩, (u_11.2.2.1, u_11.2.2.2), by rw [wN_n hw31, wN_n ho31]; exact hres.symm⟩⟩⟩) hP hD hS
        · skip
          refine lv_aload_n hx hb dX4_peer_28 rfl (lv_at hl 0 rfl) ?_
          refine lv_iload_n hx hb dX4_peer_29 rfl (lv_at hl 1 rfl) ?_
          refine lv_iload_n hx hb dX4_peer_30 rfl (lv_at hl 2 rfl) ?_
          refine go_i (wc := [(md 0, .inr (4, [.int (gXt u_2), .int (nI (gMi u_2)), .int (nI (gMo u_2)), .int (nI (gMw u_2)), .ref (md 1), .ref (md 2), .ref (md 3), .int (nI (gNi u_2)), .int (nI (gNo u_2)), .ref (md 4), .ref (md 5), .ref (md 6), .int (nI (gNs u_2)), .ref (md 7), .ref (md 8), .int (nI (gNb u_2)), .int (nI (gWd u_2)), .ref (md 9), .long (gTp u_2), .long (gBl u_2), .long (gWt u_2), .long (gWb u_2)])), (md 4, aI g 48 (gNu u_2)), (md 5, aZ g 12 (gAm u_2)), (md 7, aJ g 85 (gBd u_2)), (md 9, aI g 5 (fun j => nI ((gCh u_2) j))), (md 8, aJ g 5 (gWy u_2)), (md 6, aJ g 13000 (gSd u_2))]) (wr := [(md 1, aI g 48 (gLo u_2)), (md 2, aI g 48 (gHi u_2)), (md 3, aZ g 12 (gTr u_2))]) hP hD hS hA [0, 4, 5, 7, 9, 8, 6] [1, 2, 3] rfl rfl rfl rfl (by decide) (fun hPc hDc => rn_V (As := [.int (nI v), .int (nI w)]) (rest := []) ⟨hx, hb, hml, hown, hts⟩ ((c_X4_shares l g md (gXt u_2) (gMi u_2) (gMo u_2) (gMw u_2) (gNi u_2) (gNo u_2) (gNs u_2) (gNb u_2) (gWd u_2) (gTp u_2) (gBl u_2) (gWt u_2) (gWb u_2) (gNu u_2) (gAm u_2) (gBd u_2) (gCh u_2) (gWy u_2) (gSd u_2) v w (by omega) (by omega) (by omega) (by omega) (by omega) (by omega) (by omega)) _) (cw_X4_peer_157_12_299 hts hN ⟨Nat.le_of_ble_eq_true rfl, Nat.le_of_ble_eq_true rfl⟩) hK hN hPc hDc 0 rfl rfl rfl rfl hl.1 (Nat.le_of_ble_eq_true rfl) dX4_peer_31 ⟨Nat.le_of_ble_eq_true rfl, Nat.le_of_ble_eq_true rfl⟩) ?_
          intro r_19 u_20 H locs h_21 hP hD hS
          have hP : va_P g.1 vwCl [(md 0, .inr (4, [.int (gXt u_2), .int (nI (gMi u_2)), .int (nI (gMo u_2)), .int (nI (gMw u_2)), .ref (md 1), .ref (md 2), .ref (md 3), .int (nI (gNi u_2)), .int (nI (gNo u_2)), .ref (md 4), .ref (md 5), .ref (md 6), .int (nI u_20.1), .ref (md 7), .ref (md 8), .int (nI u_20.2.1), .int (nI u_20.2.2.1), .ref (md 9), .long (u_20.2.2.2.2.2.2.2.1), .long (u_20.2.2.2.2.2.2.2.2), .long (gWt u_2), .long (gWb u_2)])), (md 1, aI g 48 (gLo u_2)), (md 2, aI g 48 (gHi u_2)), (md 3, aZ g 12 (gTr u_2)), (md 4, aI g 48 (gNu u_2)), (md 5, aZ g 12 (gAm u_2)), (md 6, aJ g 13000 u_20.2.2.2.2.2.2.1), (md 7, aJ g 85 u_20.2.2.2.1), (md 8, aJ g 5 u_20.2.2.2.2.2.1), (md 9, aI g 5 (fun j => nI (u_20.2.2.2.2.1 j)))] H := hP.sub [3, 0, 1, 2, 4, 5, 9, 6, 8, 7] rfl
          have hD : va_D A [(md 0, .inr (4, [.int (gXt u_2), .int (nI (gMi u_2)), .int (nI (gMo u_2)), .int (nI (gMw u_2)), .ref (md 1), .ref (md 2), .ref (md 3), .int (nI (gNi u_2)), .int (nI (gNo u_2)), .ref (md 4), .ref (md 5), .ref (md 6), .int (nI u_20.1), .ref (md 7), .ref (md 8), .int (nI u_20.2.1), .int (nI u_20.2.2.1), .ref (md 9), .long (u_20.2.2.2.2.2.2.2.1), .long (u_20.2.2.2.2.2.2.2.2), .long (gWt u_2), .long (gWb u_2)])), (md 1, aI g 48 (gLo u_2)), (md 2, aI g 48 (gHi u_2)), (md 3, aZ g 12 (gTr u_2)), (md 4, aI g 48 (gNu u_2)), (md 5, aZ g 12 (gAm u_2)), (md 6, aJ g 13000 u_20.2.2.2.2.2.2.1), (md 7, aJ g 85 u_20.2.2.2.1), (md 8, aJ g 5 u_20.2.2.2.2.2.1), (md 9, aI g 5 (fun j => nI (u_20.2.2.2.2.1 j)))] := hD.sub [3, 0, 1, 2, 4, 5, 9, 6, 8, 7] rfl rfl
          have h_21 : shQ (gNu u_2) (gAm u_2) (gNi u_2) (gNo u_2) (gMw u_2) v w (gTp u_2) (gBl u_2) r_19 u_20.1 u_20.2.2.2.2.2.2.1 u_20.2.2.2.2.2.2.2.1 u_20.2.2.2.2.2.2.2.2 := h_21
          have hsh := h_21
          rw [hp1, hp2, hp3, hp4, hk3] at hsh
          have hAn : anB (plA x) 0 (gMw x) false = true := anB_of (plA x) (gMw x) 0 w false (Nat.zero_le _) (by omega) (by rw [plA_at hw]; have := hac.2.2.1; rw [wN_n hw31] at this; exact this)
          obtain ⟨hmo9, hr9, ht9, hb9⟩ := shQ_ok hAn hsh
          have hns := mOK_le hmi hmo hmw hmo9
          have hsq : mSq x v w _ _ _ _ := ⟨hmo9, ht9, hb9⟩
          refine lv_istore (lv' := [(4, .int (r_19)), (0, .ref (md 0)), (1, .int (nI v)), (2, .int (nI w)), (3, .int (nI o))]) hx hb dX4_peer_34 hl (by decide) rfl (fun ls hl => ?_)
          refine lv_iload_n hx hb dX4_peer_36 rfl (lv_at hl 2 rfl) ?_
          refine lv_iconst (v := nI 3) hx hb dX4_peer_37 (by decide) ?_
          refine lv_icmp_ne (tgt := 78) hx hb dX4_peer_38 (by decide) (fun c_22 => ?_) (fun c_22 => ?_)
          · skip
            have c_22 := mt (nI_eq (by omega) (by omega)).mpr c_22
            refine lv_iconst (v := nI 0) hx hb dX4_peer_78 (by decide) ?_
            refine lv_istore (lv' := [(5, .int (nI 0)), (4, .int (r_19)), (0, .ref (md 0)), (1, .int (nI v)), (2, .int (nI w)), (3, .int (nI o))]) hx hb dX4_peer_79 hl (by decide) rfl (fun ls hl => ?_)
            have lp_81 : ∀ (n : Nat) (i : Nat), u_20.1 - i < n → i ≤ u_20.1 → mpL u_20.2.2.2.2.2.2.1 (plN x) (gMi x) (gMo x) w o u_20.2.2.2.2.2.2.2.1 u_20.2.2.2.2.2.2.2.2 0 (u_20.1) = mpL u_20.2.2.2.2.2.2.1 (plN x) (gMi x) (gMo x) w o u_20.2.2.2.2.2.2.2.1 u_20.2.2.2.2.2.2.2.2 i (u_20.1 - i) → ∀ (H : Heap) (locs : List Loc), va_P g.1 vwCl [(md 0, .inr (4, [.int (gXt u_2), .int (nI (gMi u_2)), .int (nI (gMo u_2)), .int (nI (gMw u_2)), .ref (md 1), .ref (md 2), .ref (md 3), .int (nI (gNi u_2)), .int (nI (gNo u_2)), .ref (md 4), .ref (md 5), .ref (md 6), .int (nI u_20.1), .ref (md 7), .ref (md 8), .int (nI u_20.2.1), .int (nI u_20.2.2.1), .ref (md 9), .long (u_20.2.2.2.2.2.2.2.1), .long (u_20.2.2.2.2.2.2.2.2), .long (gWt u_2), .long (gWb u_2)])), (md 1, aI g 48 (gLo u_2)), (md 2, aI g 48 (gHi u_2)), (md 3, aZ g 12 (gTr u_2)), (md 4, aI g 48 (gNu u_2)), (md 5, aZ g 12 (gAm u_2)), (md 6, aJ g 13000 u_20.2.2.2.2.2.2.1), (md 7, aJ g 85 u_20.2.2.2.1), (md 8, aJ g 5 u_20.2.2.2.2.2.1), (md 9, aI g 5 (fun j => nI (u_20.2.2.2.2.1 j)))] H → va_D A [(md 0, .inr (4, [.int (gXt u_2), .int (nI (gMi u_2)), .int (nI (gMo u_2)), .int (nI (gMw u_2)), .ref (md 1), .ref (md 2), .ref (md 3), .int (nI (gNi u_2)), .int (nI (gNo u_2)), .ref (md 4), .ref (md 5), .ref (md 6), .int (nI u_20.1), .ref (md 7), .ref (md 8), .int (nI u_20.2.1), .int (nI u_20.2.2.1), .ref (md 9), .long (u_20.2.2.2.2.2.2.2.1), .long (u_20.2.2.2.2.2.2.2.2), .long (gWt u_2), .long (gWb u_2)])), (md 1, aI g 48 (gLo u_2)), (md 2, aI g 48 (gHi u_2)), (md 3, aZ g 12 (gTr u_2)), (md 4, aI g 48 (gNu u_2)), (md 5, aZ g 12 (gAm u_2)), (md 6, aJ g 13000 u_20.2.2.2.2.2.2.1), (md 7, aJ g 85 u_20.2.2.2.1), (md 8, aJ g 5 u_20.2.2.2.2.2.1), (md 9, aI g 5 (fun j => nI (u_20.2.2.2.2.1 j)))] → va_S A s.heap H locs → ∀ ls : Array Slot, lv_has ls 6 [(0, .ref (md 0)), (1, .int (nI v)), (2, .int (nI w)), (3, .int (nI o)), (5, .int (nI i))] → W p l e { frames := 13, cells := 0, slots := 0, locals := 327 } s m args below meth c H locs 0 0 Q (F0 m 81 ls []) := by
              intro n
              induction n with
              | zero =>
                intro i hms
                omega
              | succ n ih_81 =>
                intro i hms_81 hi9 hv H locs hP hD hS ls hl
                refine lv_iload hx hb dX4_peer_81 (lv_at hl 4 rfl) ?_
                refine lv_aload_n hx hb dX4_peer_83 rfl (lv_at hl 0 rfl) ?_
                refine k_get hx hb hts hown hK hP iw_X4_peer_X4 rfl 0 12 fm_X4_peer_81 (by decide) rfl rfl dX4_peer_84 ?_
                refine lv_icmp_ge (tgt := 126) hx hb dX4_peer_87 (by decide) (fun c_23 => ?_) (fun c_23 => ?_)
                · skip
                  have c_23 := (nI_leI (by omega) (by omega)).mp c_23
                  have hres : mpL u_20.2.2.2.2.2.2.1 (plN x) (gMi x) (gMo x) w o u_20.2.2.2.2.2.2.2.1 u_20.2.2.2.2.2.2.2.2 0 (u_20.1) = true := by rw [hv, show u_20.1 - i = 0 by omega]; rfl
                  refine lv_iconst (v := nI 1) hx hb dX4_peer_126 (by decide) ?_
                  exact ret dX4_peer_127 ((gXt u_2, gMi u_2, gMo u_2, gMw u_2, gLo u_2, gHi u_2, gTr u_2, gNi u_2, gNo u_2, gNu u_2, gAm u_2, u_20.2.2.2.2.2.2.1, u_20.1, u_20.2.2.2.1, u_20.2.2.2.2.2.1, u_20.2.1, u_20.2.2.1, u_20.2.2.2.2.1, u_20.2.2.2.2.2.2.2.1, u_20.2.2.2.2.2.2.2.2, gWt u_2, gWb u_2)) (⟨hkp, Or.inl ⟨hpc, Or.inr ⟨by rw [wN_n hv31]; exact hv2, _, _, _, _, by rw [wN_n hw31, wN_n hv31]; exact hsq, by rw [wN_n hw31, wN_n ho31, hres]; rfl⟩⟩⟩) hP hD hS
                · skip
                  have c_23 := mt (nI_leI (by omega) (by omega)).mpr c_23
                  refine lv_aload_n hx hb dX4_peer_90 rfl (lv_at hl 0 rfl) ?_
                  refine lv_iload hx hb dX4_peer_91 (lv_at hl 4 rfl) ?_
                  refine lv_iload_n hx hb dX4_peer_93 rfl (lv_at hl 2 rfl) ?_
                  refine go_i (wc := [(md 0, .inr (4, [.int (gXt u_2), .int (nI (gMi u_2)), .int (nI (gMo u_2)), .int (nI (gMw u_2)), .ref (md 1), .ref (md 2), .ref (md 3), .int (nI (gNi u_2)), .int (nI (gNo u_2)), .ref (md 4), .ref (md 5), .ref (md 6), .int (nI u_20.1), .ref (md 7), .ref (md 8), .int (nI u_20.2.1), .int (nI u_20.2.2.1), .ref (md 9), .long (u_20.2.2.2.2.2.2.2.1), .long (u_20.2.2.2.2.2.2.2.2), .long (gWt u_2), .long (gWb u_2)])), (md 4, aI g 48 (gNu u_2)), (md 6, aJ g 13000 u_20.2.2.2.2.2.2.1)]) (wr := [(md 1, aI g 48 (gLo u_2)), (md 2, aI g 48 (gHi u_2)), (md 3, aZ g 12 (gTr u_2)), (md 5, aZ g 12 (gAm u_2)), (md 7, aJ g 85 u_20.2.2.2.1), (md 8, aJ g 5 u_20.2.2.2.2.2.1), (md 9, aI g 5 (fun j => nI (u_20.2.2.2.2.1 j)))]) hP hD hS hA [0, 4, 6] [1, 2, 3, 5, 7, 8, 9] rfl rfl rfl rfl (by decide) (fun hPc hDc => rn_V (As := [.int (nI i), .int (nI w)]) (rest := []) ⟨hx, hb, hml, hown, hts⟩ ((c_X4_isBest l g md (gXt u_2) (gMi u_2) (gMo u_2) (gMw u_2) (gNi u_2) (gNo u_2) u_20.1 u_20.2.1 u_20.2.2.1 u_20.2.2.2.2.2.2.2.1 u_20.2.2.2.2.2.2.2.2 (gWt u_2) (gWb u_2) (gNu u_2) u_20.2.2.2.2.2.2.1 i w (by omega) (by omega) (by omega) (by omega)) _) (cw_X4_peer_167_1_25 hts hN ⟨Nat.le_of_ble_eq_true rfl, Nat.le_of_ble_eq_true rfl⟩) hK hN hPc hDc 0 rfl rfl rfl rfl hl.1 (Nat.le_of_ble_eq_true rfl) dX4_peer_94 ⟨Nat.le_of_ble_eq_true rfl, Nat.le_of_ble_eq_true rfl⟩) ?_
                  intro r_24 u_25 H locs h_26 hP hD hS
                  have hP : va_P g.1 vwCl [(md 0, .inr (4, [.int (gXt u_2), .int (nI (gMi u_2)), .int (nI (gMo u_2)), .int (nI (gMw u_2)), .ref (md 1), .ref (md 2), .ref (md 3), .int (nI (gNi u_2)), .int (nI (gNo u_2)), .ref (md 4), .ref (md 5), .ref (md 6), .int (nI u_20.1), .ref (md 7), .ref (md 8), .int (nI u_20.2.1), .int (nI u_20.2.2.1), .ref (md 9), .long (u_20.2.2.2.2.2.2.2.1), .long (u_20.2.2.2.2.2.2.2.2), .long (gWt u_2), .long (gWb u_2)])), (md 1, aI g 48 (gLo u_2)), (md 2, aI g 48 (gHi u_2)), (md 3, aZ g 12 (gTr u_2)), (md 4, aI g 48 (gNu u_2)), (md 5, aZ g 12 (gAm u_2)), (md 6, aJ g 13000 u_20.2.2.2.2.2.2.1), (md 7, aJ g 85 u_20.2.2.2.1), (md 8, aJ g 5 u_20.2.2.2.2.2.1), (md 9, aI g 5 (fun j => nI (u_20.2.2.2.2.1 j)))] H := hP.sub [7, 0, 1, 2, 8, 3, 9, 4, 5, 6] rfl
                  have hD : va_D A [(md 0, .inr (4, [.int (gXt u_2), .int (nI (gMi u_2)), .int (nI (gMo u_2)), .int (nI (gMw u_2)), .ref (md 1), .ref (md 2), .ref (md 3), .int (nI (gNi u_2)), .int (nI (gNo u_2)), .ref (md 4), .ref (md 5), .ref (md 6), .int (nI u_20.1), .ref (md 7), .ref (md 8), .int (nI u_20.2.1), .int (nI u_20.2.2.1), .ref (md 9), .long (u_20.2.2.2.2.2.2.2.1), .long (u_20.2.2.2.2.2.2.2.2), .long (gWt u_2), .long (gWb u_2)])), (md 1, aI g 48 (gLo u_2)), (md 2, aI g 48 (gHi u_2)), (md 3, aZ g 12 (gTr u_2)), (md 4, aI g 48 (gNu u_2)), (md 5, aZ g 12 (gAm u_2)), (md 6, aJ g 13000 u_20.2.2.2.2.2.2.1), (md 7, aJ g 85 u_20.2.2.2.1), (md 8, aJ g 5 u_20.2.2.2.2.2.1), (md 9, aI g 5 (fun j => nI (u_20.2.2.2.2.1 j)))] := hD.sub [7, 0, 1, 2, 8, 3, 9, 4, 5, 6] rfl rfl
                  have h_26 : r_24 = bI (decide (outsW u_20.2.2.2.2.2.2.1 (gNu u_2) i w 4 (gNi u_2) (gNo u_2) * u_20.2.2.2.2.2.2.2.2 = u_20.2.2.2.2.2.2.2.1 * insW u_20.2.2.2.2.2.2.1 (gNu u_2) i w (gNi u_2))) := h_26
                  subst h_26
                  refine lv_if_eq (tgt := 120) hx hb dX4_peer_97 (by decide) (fun c_27 => ?_) (fun c_27 => ?_)
                  · skip
                    have hbe := of_decide_eq_false (bI_eq0.mp c_27)
                    rw [hp1, hp2, hp3] at hbe
                    have hv2 : mpL u_20.2.2.2.2.2.2.1 (plN x) (gMi x) (gMo x) w o u_20.2.2.2.2.2.2.2.1 u_20.2.2.2.2.2.2.2.2 0 (u_20.1) = mpL u_20.2.2.2.2.2.2.1 (plN x) (gMi x) (gMo x) w o u_20.2.2.2.2.2.2.2.1 u_20.2.2.2.2.2.2.2.2 (i + 1) (u_20.1 - (i + 1)) := by rw [hv, show u_20.1 - i = (u_20.1 - (i + 1)) + 1 by omega, mpL, if_neg (fun z => hbe z.1)]
                    refine lv_iinc (v := nI (i + 1)) (lv' := [(5, .int (nI (i + 1))), (0, .ref (md 0)), (1, .int (nI v)), (2, .int (nI w)), (3, .int (nI o))]) hx hb dX4_peer_120 hl (k := 4) rfl (nI_inc1 i) (by decide) rfl (fun ls hl => ?_)
                    refine lv_goto (tgt := 81) hx hb dX4_peer_123 (by decide) ?_
                    exact ih_81 (i + 1) (by omega) (by omega) hv2 _ _ hP hD hS ls (lv_sub hl [1, 2, 3, 4, 0] rfl)
                  · skip
                    have hbe := of_decide_eq_true (bI_ne0.mp c_27)
                    rw [hp1, hp2, hp3] at hbe
                    refine lv_aload_n hx hb dX4_peer_100 rfl (lv_at hl 0 rfl) ?_
                    refine lv_iload hx hb dX4_peer_101 (lv_at hl 4 rfl) ?_
                    refine lv_iload_n hx hb dX4_peer_103 rfl (lv_at hl 3 rfl) ?_
                    refine go_l (wc := [(md 0, .inr (4, [.int (gXt u_2), .int (nI (gMi u_2)), .int (nI (gMo u_2)), .int (nI (gMw u_2)), .ref (md 1), .ref (md 2), .ref (md 3), .int (nI (gNi u_2)), .int (nI (gNo u_2)), .ref (md 4), .ref (md 5), .ref (md 6), .int (nI u_20.1), .ref (md 7), .ref (md 8), .int (nI u_20.2.1), .int (nI u_20.2.2.1), .ref (md 9), .long (u_20.2.2.2.2.2.2.2.1), .long (u_20.2.2.2.2.2.2.2.2), .long (gWt u_2), .long (gWb u_2)])), (md 4, aI g 48 (gNu u_2)), (md 6, aJ g 13000 u_20.2.2.2.2.2.2.1)]) (wr := [(md 1, aI g 48 (gLo u_2)), (md 2, aI g 48 (gHi u_2)), (md 3, aZ g 12 (gTr u_2)), (md 5, aZ g 12 (gAm u_2)), (md 7, aJ g 85 u_20.2.2.2.1), (md 8, aJ g 5 u_20.2.2.2.2.2.1), (md 9, aI g 5 (fun j => nI (u_20.2.2.2.2.1 j)))]) hP hD hS hA [0, 4, 6] [1, 2, 3, 5, 7, 8, 9] rfl rfl rfl rfl (by decide) (fun hPc hDc => rn_V (As := [.int (nI i), .int (nI o)]) (rest := []) ⟨hx, hb, hml, hown, hts⟩ ((c_X4_outWeighed l g md (gXt u_2) (gMi u_2) (gMo u_2) (gMw u_2) (gNi u_2) (gNo u_2) u_20.1 u_20.2.1 u_20.2.2.1 u_20.2.2.2.2.2.2.2.1 u_20.2.2.2.2.2.2.2.2 (gWt u_2) (gWb u_2) (gNu u_2) u_20.2.2.2.2.2.2.1 i o (by omega) (by omega) (by omega) (by omega)) _) (cw_X4_peer_131_0_0 hts hN ⟨Nat.le_of_ble_eq_true rfl, Nat.le_of_ble_eq_true rfl⟩) hK hN hPc hDc 0 rfl rfl rfl rfl hl.1 (Nat.le_of_ble_eq_true rfl) dX4_peer_104 ⟨Nat.le_of_ble_eq_true rfl, Nat.le_of_ble_eq_true rfl⟩) ?_
                    intro r_28 u_29 H locs h_30 hP hD hS
                    have hP : va_P g.1 vwCl [(md 0, .inr (4, [.int (gXt u_2), .int (nI (gMi u_2)), .int (nI (gMo u_2)), .int (nI (gMw u_2)), .ref (md 1), .ref (md 2), .ref (md 3), .int (nI (gNi u_2)), .int (nI (gNo u_2)), .ref (md 4), .ref (md 5), .ref (md 6), .int (nI u_20.1), .ref (md 7), .ref (md 8), .int (nI u_20.2.1), .int (nI u_20.2.2.1), .ref (md 9), .long (u_20.2.2.2.2.2.2.2.1), .long (u_20.2.2.2.2.2.2.2.2), .long (gWt u_2), .long (gWb u_2)])), (md 1, aI g 48 (gLo u_2)), (md 2, aI g 48 (gHi u_2)), (md 3, aZ g 12 (gTr u_2)), (md 4, aI g 48 (gNu u_2)), (md 5, aZ g 12 (gAm u_2)), (md 6, aJ g 13000 u_20.2.2.2.2.2.2.1), (md 7, aJ g 85 u_20.2.2.2.1), (md 8, aJ g 5 u_20.2.2.2.2.2.1), (md 9, aI g 5 (fun j => nI (u_20.2.2.2.2.1 j)))] H := hP.sub [7, 0, 1, 2, 8, 3, 9, 4, 5, 6] rfl
                    have hD : va_D A [(md 0, .inr (4, [.int (gXt u_2), .int (nI (gMi u_2)), .int (nI (gMo u_2)), .int (nI (gMw u_2)), .ref (md 1), .ref (md 2), .ref (md 3), .int (nI (gNi u_2)), .int (nI (gNo u_2)), .ref (md 4), .ref (md 5), .ref (md 6), .int (nI u_20.1), .ref (md 7), .ref (md 8), .int (nI u_20.2.1), .int (nI u_20.2.2.1), .ref (md 9), .long (u_20.2.2.2.2.2.2.2.1), .long (u_20.2.2.2.2.2.2.2.2), .long (gWt u_2), .long (gWb u_2)])), (md 1, aI g 48 (gLo u_2)), (md 2, aI g 48 (gHi u_2)), (md 3, aZ g 12 (gTr u_2)), (md 4, aI g 48 (gNu u_2)), (md 5, aZ g 12 (gAm u_2)), (md 6, aJ g 13000 u_20.2.2.2.2.2.2.1), (md 7, aJ g 85 u_20.2.2.2.1), (md 8, aJ g 5 u_20.2.2.2.2.2.1), (md 9, aI g 5 (fun j => nI (u_20.2.2.2.2.1 j)))] := hD.sub [7, 0, 1, 2, 8, 3, 9, 4, 5, 6] rfl rfl
                    have h_30 : r_28 = outsW u_20.2.2.2.2.2.2.1 (gNu u_2) i o 4 (gNi u_2) (gNo u_2) := h_30
                    subst h_30
                    refine lv_aload_n hx hb dX4_peer_107 rfl (lv_at hl 0 rfl) ?_
                    refine lv_iload hx hb dX4_peer_108 (lv_at hl 4 rfl) ?_
                    refine lv_iload_n hx hb dX4_peer_110 rfl (lv_at hl 3 rfl) ?_
                    refine go_l (wc := [(md 0, .inr (4, [.int (gXt u_2), .int (nI (gMi u_2)), .int (nI (gMo u_2)), .int (nI (gMw u_2)), .ref (md 1), .ref (md 2), .ref (md 3), .int (nI (gNi u_2)), .int (nI (gNo u_2)), .ref (md 4), .ref (md 5), .ref (md 6), .int (nI u_20.1), .ref (md 7), .ref (md 8), .int (nI u_20.2.1), .int (nI u_20.2.2.1), .ref (md 9), .long (u_20.2.2.2.2.2.2.2.1), .long (u_20.2.2.2.2.2.2.2.2), .long (gWt u_2), .long (gWb u_2)])), (md 4, aI g 48 (gNu u_2)), (md 6, aJ g 13000 u_20.2.2.2.2.2.2.1)]) (wr := [(md 1, aI g 48 (gLo u_2)), (md 2, aI g 48 (gHi u_2)), (md 3, aZ g 12 (gTr u_2)), (md 5, aZ g 12 (gAm u_2)), (md 7, aJ g 85 u_20.2.2.2.1), (md 8, aJ g 5 u_20.2.2.2.2.2.1), (md 9, aI g 5 (fun j => nI (u_20.2.2.2.2.1 j)))]) hP hD hS hA [0, 4, 6] [1, 2, 3, 5, 7, 8, 9] rfl rfl rfl rfl (by decide) (fun hPc hDc => rn_V (As := [.int (nI i), .int (nI o)]) (rest := [.long (outsW u_20.2.2.2.2.2.2.1 (gNu u_2) i o 4 (gNi u_2) (gNo u_2))]) ⟨hx, hb, hml, hown, hts⟩ ((c_X4_inWeighed l g md (gXt u_2) (gMi u_2) (gMo u_2) (gMw u_2) (gNi u_2) (gNo u_2) u_20.1 u_20.2.1 u_20.2.2.1 u_20.2.2.2.2.2.2.2.1 u_20.2.2.2.2.2.2.2.2 (gWt u_2) (gWb u_2) (gNu u_2) u_20.2.2.2.2.2.2.1 i o (by omega) (by omega) (by omega)) _) (cw_X4_peer_128_0_0 hts hN ⟨Nat.le_of_ble_eq_true rfl, Nat.le_of_ble_eq_true rfl⟩) hK hN hPc hDc 0 rfl rfl rfl rfl hl.1 (Nat.le_of_ble_eq_true rfl) dX4_peer_111 ⟨Nat.le_of_ble_eq_true rfl, Nat.le_of_ble_eq_true rfl⟩) ?_
                    intro r_31 u_32 H locs h_33 hP hD hS
                    have hP : va_P g.1 vwCl [(md 0, .inr (4, [.int (gXt u_2), .int (nI (gMi u_2)), .int (nI (gMo u_2)), .int (nI (gMw u_2)), .ref (md 1), .ref (md 2), .ref (md 3), .int (nI (gNi u_2)), .int (nI (gNo u_2)), .ref (md 4), .ref (md 5), .ref (md 6), .int (nI u_20.1), .ref (md 7), .ref (md 8), .int (nI u_20.2.1), .int (nI u_20.2.2.1), .ref (md 9), .long (u_20.2.2.2.2.2.2.2.1), .long (u_20.2.2.2.2.2.2.2.2), .long (gWt u_2), .long (gWb u_2)])), (md 1, aI g 48 (gLo u_2)), (md 2, aI g 48 (gHi u_2)), (md 3, aZ g 12 (gTr u_2)), (md 4, aI g 48 (gNu u_2)), (md 5, aZ g 12 (gAm u_2)), (md 6, aJ g 13000 u_20.2.2.2.2.2.2.1), (md 7, aJ g 85 u_20.2.2.2.1), (md 8, aJ g 5 u_20.2.2.2.2.2.1), (md 9, aI g 5 (fun j => nI (u_20.2.2.2.2.1 j)))] H := hP.sub [7, 0, 1, 2, 8, 3, 9, 4, 5, 6] rfl
                    have hD : va_D A [(md 0, .inr (4, [.int (gXt u_2), .int (nI (gMi u_2)), .int (nI (gMo u_2)), .int (nI (gMw u_2)), .ref (md 1), .ref (md 2), .ref (md 3), .int (nI (gNi u_2)), .int (nI (gNo u_2)), .ref (md 4), .ref (md 5), .ref (md 6), .int (nI u_20.1), .ref (md 7), .ref (md 8), .int (nI u_20.2.1), .int (nI u_20.2.2.1), .ref (md 9), .long (u_20.2.2.2.2.2.2.2.1), .long (u_20.2.2.2.2.2.2.2.2), .long (gWt u_2), .long (gWb u_2)])), (md 1, aI g 48 (gLo u_2)), (md 2, aI g 48 (gHi u_2)), (md 3, aZ g 12 (gTr u_2)), (md 4, aI g 48 (gNu u_2)), (md 5, aZ g 12 (gAm u_2)), (md 6, aJ g 13000 u_20.2.2.2.2.2.2.1), (md 7, aJ g 85 u_20.2.2.2.1), (md 8, aJ g 5 u_20.2.2.2.2.2.1), (md 9, aI g 5 (fun j => nI (u_20.2.2.2.2.1 j)))] := hD.sub [7, 0, 1, 2, 8, 3, 9, 4, 5, 6] rfl rfl
                    have h_33 : r_31 = insW u_20.2.2.2.2.2.2.1 (gNu u_2) i o (gNi u_2) := h_33
                    subst h_33
                    refine W.lcmp hx hb dX4_peer_114 ?_
                    refine lv_if_eq (tgt := 120) hx hb dX4_peer_115 (by decide) (fun c_34 => ?_) (fun c_34 => ?_)
                    · skip
                      have c_34 := (lc_eq _ _).mp c_34
                      have hne := c_34
                      rw [hp1, hp2, hp3] at hne
                      have hv2 : mpL u_20.2.2.2.2.2.2.1 (plN x) (gMi x) (gMo x) w o u_20.2.2.2.2.2.2.2.1 u_20.2.2.2.2.2.2.2.2 0 (u_20.1) = mpL u_20.2.2.2.2.2.2.1 (plN x) (gMi x) (gMo x) w o u_20.2.2.2.2.2.2.2.1 u_20.2.2.2.2.2.2.2.2 (i + 1) (u_20.1 - (i + 1)) := by rw [hv, show u_20.1 - i = (u_20.1 - (i + 1)) + 1 by omega, mpL, if_neg (fun z => z.2 hne)]
                      refine lv_iinc (v := nI (i + 1)) (lv' := [(5, .int (nI (i + 1))), (0, .ref (md 0)), (1, .int (nI v)), (2, .int (nI w)), (3, .int (nI o))]) hx hb dX4_peer_120 hl (k := 4) rfl (nI_inc1 i) (by decide) rfl (fun ls hl => ?_)
                      refine lv_goto (tgt := 81) hx hb dX4_peer_123 (by decide) ?_
                      exact ih_81 (i + 1) (by omega) (by omega) hv2 _ _ hP hD hS ls (lv_sub hl [1, 2, 3, 4, 0] rfl)
                    · skip
                      have c_34 := mt (lc_eq _ _).mpr c_34
                      have hne := c_34
                      rw [hp1, hp2, hp3] at hne
                      have hres : mpL u_20.2.2.2.2.2.2.1 (plN x) (gMi x) (gMo x) w o u_20.2.2.2.2.2.2.2.1 u_20.2.2.2.2.2.2.2.2 0 (u_20.1) = false := by rw [hv, show u_20.1 - i = (u_20.1 - (i + 1)) + 1 by omega, mpL, if_pos ⟨hbe, hne⟩]
                      refine lv_iconst (v := nI 0) hx hb dX4_peer_118 (by decide) ?_
                      exact ret dX4_peer_119 ((gXt u_2, gMi u_2, gMo u_2, gMw u_2, gLo u_2, gHi u_2, gTr u_2, gNi u_2, gNo u_2, gNu u_2, gAm u_2, u_20.2.2.2.2.2.2.1, u_20.1, u_20.2.2.2.1, u_20.2.2.2.2.2.1, u_20.2.1, u_20.2.2.1, u_20.2.2.2.2.1, u_20.2.2.2.2.2.2.2.1, u_20.2.2.2.2.2.2.2.2, gWt u_2, gWb u_2)) (⟨hkp, Or.inl ⟨hpc, Or.inr ⟨by rw [wN_n hv31]; exact hv2, _, _, _, _, by rw [wN_n hw31, wN_n hv31]; exact hsq, by rw [wN_n hw31, wN_n ho31, hres]; rfl⟩⟩⟩) hP hD hS
            exact lp_81 (u_20.1 - 0 + 1) 0 (by omega) (by omega) rfl _ _ hP hD hS ls (lv_sub hl [2, 3, 4, 5, 0] rfl)
          · skip
            have c_22 := (nI_eq (by omega) (by omega)).mp c_22
            omega
      · skip
        have hno : ¬ mpeC x vw wk (nI o) := fun q => q.2.2 (by rw [wN_n ho31, ← hk6]; exact c_9)
        refine lv_iconst (v := -1) hx hb dX4_peer_26 (by decide) ?_
        exact ret dX4_peer_27 ((gXt u_2, gMi u_2, gMo u_2, gMw u_2, gLo u_2, gHi u_2, gTr u_2, gNi u_2, gNo u_2, gNu u_2, gAm u_2, gSd u_2, gNs u_2, gBd u_2, gWy u_2, gNb u_2, gWd u_2, (gCh u_2), gTp u_2, gBl u_2, gWt u_2, gWb u_2)) (⟨hkp, Or.inr ⟨hno, rfl⟩⟩) hP hD hS
