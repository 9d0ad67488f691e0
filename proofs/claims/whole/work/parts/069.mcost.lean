def mcC (x : MS) (v w f s wh : Int32) : Prop := asC x v w ∧ isI wh (nI 0) (nI 1) = true ∧ isI f (nI 0) (nI 30) = true ∧ (1 < gMi x → isI s (nI 0) (nI 30) = true) ∧ ¬ f + (if 1 < gMi x then s else nI 0) = 0
def mpN (x : MS) (f s : Int32) : Nat → Int32 := prN (gMi x) (gMo x) f s 0 (gMw x) (plN x)
def mcoP (x : MS) (v w f s wh : Int32) (r : Int64) : Prop := ((mcC x v w f s wh ∧ ¬ mpN x f s (wN w * 4) = 0) ∧ ∃ b tp bl, mSh (mpN x f s) (plA x) 1 (gMo x) (gMw x) (wN v) (wN w) b tp bl ∧ r = ptM tp bl wh) ∨ (¬ (mcC x v w f s wh ∧ ¬ mpN x f s (wN w * 4) = 0) ∧ r = -1)
theorem prV_eq {nu : Nat → Int32} {ri : Nat} {p q : Int32} {w : Nat} (h1 : 1 ≤ ri) (h2 : ri ≤ 2) : prV nu ri p q w = p * nu (w * 4) + (if 1 < ri then q * nu (w * 4 + 1) else nI 0) := by
  unfold prV
  rcases (show ri = 1 ∨ ri = 2 by omega) with rfl | rfl
  · rw [if_neg (by decide), if_neg (by decide)]
    exact (Int32.add_zero _).symm
  · rw [if_pos rfl, if_pos (by decide)]
def lwS (lo : Nat → Int32) (mi w k : Nat) : Nat → Int32 × Int32 → Int32 × Int32
  | 0, q => q
  | n + 1, q => lwS lo mi w (k + 1) n (if k < mi then (q.1 + lo (w * 4 + k), q.2) else (q.1, q.2 + lo (w * 4 + k)))
def spM (lo hi tr : Nat → Int32) (mi t wk : Nat) (gr : Int32) (o : Nat) : Nat → (Nat → Int32) → Option (Nat → Int32)
  | 0, nu => some nu
  | n + 1, nu => if tr o = 0 then spM lo hi tr mi t wk gr (o + 1) n nu else if (lwS lo mi o 0 t (0, 0)).1 = 0 ∨ (lwS lo mi o 0 t (0, 0)).2 = 0 then none else spM lo hi tr mi t wk gr (o + 1) n (spI lo hi mi (spW o wk gr) o 0 t nu)
def mspF (x : MS) (w : Nat) (gr : Int32) : Option (Nat → Int32) := spM (gLo x) (gHi x) (gTr x) (gMi x) (gMi x + gMo x) w gr 0 (gMw x) (plN x)
def msnC (x : MS) (v w wh : Int32) : Prop := asC x v w ∧ isI wh (nI 0) (nI 1) = true ∧ msO (gLo x) (gHi x) (gTr x) (gMi x + gMo x) 0 (gMw x) ≤ 4
def msnP (x : MS) (v w gr wh : Int32) (r : Int64) : Prop := (msnC x v w wh ∧ ((mspF x (wN w) gr = none ∧ r = -1) ∨ ∃ nu, mspF x (wN w) gr = some nu ∧ ∃ b tp bl, mSh nu (plA x) (gMi x) (gMo x) (gMw x) (wN v) (wN w) b tp bl ∧ r = ptM tp bl wh)) ∨ (¬ msnC x v w wh ∧ r = -1)
theorem cw_X4_cost_154_2_42 {R : Room} {s : State} {args : Array Value} (hts : ∀ w ∈ wsX4_cost, w.before args s = true) (hN : nsW s) (hR : 2 + 1 ≤ R.frames ∧ 8 + (3 + 11) + 42 ≤ R.locals) : CallW R s args RX4 RX4 154 yX4_asks cX4_asks 3 (some .boolean) wsX4_asks { frames := 2, cells := 0, slots := 0, locals := 42 } 0 0 2 := cwV 2 hts gX4_cost_X4_asks rfl rfl rfl ⟨rfl, hdn_X4_asks⟩ hR
theorem cw_X4_cost_52_0_0 {R : Room} {s : State} {args : Array Value} (hts : ∀ w ∈ wsX4_cost, w.before args s = true) (hN : nsW s) (hR : 0 + 1 ≤ R.frames ∧ 8 + (3 + 11) + 0 ≤ R.locals) : CallB R s args RX4 52 yX4_isIn cX4_isIn 3 (some .boolean) wsX4_isIn { frames := 0, cells := 0, slots := 0, locals := 0 } 0 0 3 ∧ (Cond.static yX4_isIn).before args s = true := va_cwS 3 hts gX4_cost_X4_isIn rfl rfl rfl hdn_X4_isIn hR
theorem iw_X4_cost_X4 : ∀ w ∈ wsX40, w ∈ wsX4_cost := fun w h => List.mem_cons_of_mem _ (List.mem_append_right _ h)
theorem fm_X4_cost_9 : Cond.fieldLink RX4 9 "EdgeBenchModel" "ins" "I" ∈ wsX4_cost := List.mem_of_getElem? (i := 1) rfl
theorem fm_X4_cost_49 : Cond.fieldLink RX4 49 "EdgeBenchModel" "works" "I" ∈ wsX4_cost := List.mem_of_getElem? (i := 3) rfl
theorem fm_X4_cost_64 : Cond.fieldLink RX4 64 "EdgeBenchModel" "nIn" "I" ∈ wsX4_cost := List.mem_of_getElem? (i := 6) rfl
theorem fm_X4_cost_27 : Cond.fieldLink RX4 27 "EdgeBenchModel" "number" "[I" ∈ wsX4_cost := List.mem_of_getElem? (i := 4) rfl
theorem cw_X4_cost_157_2_50 {R : Room} {s : State} {args : Array Value} (hts : ∀ w ∈ wsX4_cost, w.before args s = true) (hN : nsW s) (hR : 2 + 1 ≤ R.frames ∧ 8 + (9 + 11) + 50 ≤ R.locals) : CallW R s args RX4 RX4 157 yX4_shares cX4_shares 9 (some .boolean) wsX4_shares { frames := 2, cells := 0, slots := 0, locals := 50 } 0 0 2 := cwV 2 hts gX4_cost_X4_shares rfl rfl rfl ⟨rfl, hdn_X4_shares⟩ hR
theorem cw_X4_cost_160_2_69 {R : Room} {s : State} {args : Array Value} (hts : ∀ w ∈ wsX4_cost, w.before args s = true) (hN : nsW s) (hR : 2 + 1 ≤ R.frames ∧ 8 + (4 + 11) + 69 ≤ R.locals) : CallW R s args RX4 RX4 160 yX4_part cX4_part 4 (some .long) wsX4_part { frames := 2, cells := 0, slots := 0, locals := 69 } 0 0 1 := cwV 1 hts gX4_cost_X4_part rfl rfl rfl ⟨rfl, hdn_X4_part⟩ hR
theorem cw_X4_cost_157_12_299 {R : Room} {s : State} {args : Array Value} (hts : ∀ w ∈ wsX4_cost, w.before args s = true) (hN : nsW s) (hR : 12 + 1 ≤ R.frames ∧ 8 + (9 + 11) + 299 ≤ R.locals) : CallW R s args RX4 RX4 157 yX4_shares cX4_shares 9 (some .boolean) wsX4_shares { frames := 12, cells := 0, slots := 0, locals := 299 } 0 0 2 := cwV 2 hts gX4_cost_X4_shares rfl rfl rfl ⟨rfl, hdn_X4_shares⟩ hR
theorem fm_X4_cost_13 : Cond.fieldLink RX4 13 "EdgeBenchModel" "outs" "I" ∈ wsX4_cost := List.mem_of_getElem? (i := 5) rfl
set_option maxHeartbeats 20000000 in
set_option maxRecDepth 100000 in
theorem c_X4_cost (l : Launch) (g : Gt) (md : Nat → Nat) (x : MS) (vw : Int32) (wk : Int32) (fi : Int32) (sc : Int32) (wh : Int32) (hmb : mBen x) : CL l yX4_cost wsX4_cost { frames := 13, cells := 0, slots := 0, locals := 327 } g [.ref (md 0), .int (vw), .int (wk), .int (fi), .int (sc), .int (wh)] [(md 0, .inr (4, [.int (gXt x), .int (nI (gMi x)), .int (nI (gMo x)), .int (nI (gMw x)), .ref (md 1), .ref (md 2), .ref (md 3), .int (nI (gNi x)), .int (nI (gNo x)), .ref (md 4), .ref (md 5), .ref (md 6), .int (nI (gNs x)), .ref (md 7), .ref (md 8), .int (nI (gNb x)), .int (nI (gWd x)), .ref (md 9), .long (gTp x), .long (gBl x), .long (gWt x), .long (gWb x)])), (md 1, aI g 48 (gLo x)), (md 2, aI g 48 (gHi x)), (md 3, aZ g 12 (gTr x)), (md 4, aI g 48 (gNu x)), (md 5, aZ g 12 (gAm x)), (md 6, aJ g 13000 (gSd x)), (md 7, aJ g 85 (gBd x)), (md 8, aJ g 5 (gWy x)), (md 9, aI g 5 (fun j => nI ((gCh x) j)))] (fun zr (zu : MS) => mKeep x zu ∧ mcoP x vw wk fi sc wh zr) (fun (zu : MS) => [(md 0, .inr (4, [.int (gXt zu), .int (nI (gMi zu)), .int (nI (gMo zu)), .int (nI (gMw zu)), .ref (md 1), .ref (md 2), .ref (md 3), .int (nI (gNi zu)), .int (nI (gNo zu)), .ref (md 4), .ref (md 5), .ref (md 6), .int (nI (gNs zu)), .ref (md 7), .ref (md 8), .int (nI (gNb zu)), .int (nI (gWd zu)), .ref (md 9), .long (gTp zu), .long (gBl zu), .long (gWt zu), .long (gWb zu)])), (md 1, aI g 48 (gLo zu)), (md 2, aI g 48 (gHi zu)), (md 3, aZ g 12 (gTr zu)), (md 4, aI g 48 (gNu zu)), (md 5, aZ g 12 (gAm zu)), (md 6, aJ g 13000 (gSd zu)), (md 7, aJ g 85 (gBd zu)), (md 8, aJ g 5 (gWy zu)), (md 9, aI g 5 (fun j => nI ((gCh zu) j)))]) 0 0 := by
  refine ent_l (cc := cX4_cost) (maxL := 9) (by decide) rfl (Nat.le_of_ble_eq_true rfl) ?_
  intro p e s m below meth c A args Q hE ret ls hl
  obtain ⟨hx, hb, hml, hown, hts, hnm, hA, hP, hD, hK, hN⟩ := hE
  have hS : va_S A s.heap s.heap [] := va_S.rf
  have hl : lv_has ls 9 [(0, .ref (md 0)), (1, .int (vw)), (2, .int (wk)), (3, .int (fi)), (4, .int (sc)), (5, .int (wh))] := hl
  have hP : va_P g.1 vwCl [(md 0, .inr (4, [.int (gXt x), .int (nI (gMi x)), .int (nI (gMo x)), .int (nI (gMw x)), .ref (md 1), .ref (md 2), .ref (md 3), .int (nI (gNi x)), .int (nI (gNo x)), .ref (md 4), .ref (md 5), .ref (md 6), .int (nI (gNs x)), .ref (md 7), .ref (md 8), .int (nI (gNb x)), .int (nI (gWd x)), .ref (md 9), .long (gTp x), .long (gBl x), .long (gWt x), .long (gWb x)])), (md 1, aI g 48 (gLo x)), (md 2, aI g 48 (gHi x)), (md 3, aZ g 12 (gTr x)), (md 4, aI g 48 (gNu x)), (md 5, aZ g 12 (gAm x)), (md 6, aJ g 13000 (gSd x)), (md 7, aJ g 85 (gBd x)), (md 8, aJ g 5 (gWy x)), (md 9, aI g 5 (fun j => nI ((gCh x) j)))] s.heap := hP
  obtain ⟨⟨hmi1, hmi⟩, ⟨hmo1, hmo⟩, hmw, htr⟩ := id hmb
  refine lv_aload_n hx hb dX4_cost_0 rfl (lv_at hl 0 rfl) ?_
  refine lv_iload_n hx hb dX4_cost_1 rfl (lv_at hl 1 rfl) ?_
  refine lv_iload_n hx hb dX4_cost_2 rfl (lv_at hl 2 rfl) ?_
  refine go_i (wc := [(md 0, .inr (4, [.int (gXt x), .int (nI (gMi x)), .int (nI (gMo x)), .int (nI (gMw x)), .ref (md 1), .ref (md 2), .ref (md 3), .int (nI (gNi x)), .int (nI (gNo x)), .ref (md 4), .ref (md 5), .ref (md 6), .int (nI (gNs x)), .ref (md 7), .ref (md 8), .int (nI (gNb x)), .int (nI (gWd x)), .ref (md 9), .long (gTp x), .long (gBl x), .long (gWt x), .long (gWb x)])), (md 1, aI g 48 (gLo x)), (md 2, aI g 48 (gHi x)), (md 3, aZ g 12 (gTr x)), (md 4, aI g 48 (gNu x)), (md 5, aZ g 12 (gAm x)), (md 6, aJ g 13000 (gSd x)), (md 7, aJ g 85 (gBd x)), (md 8, aJ g 5 (gWy x)), (md 9, aI g 5 (fun j => nI ((gCh x) j)))]) (wr := []) hP hD hS hA [0, 1, 2, 3, 4, 5, 6, 7, 8, 9] [] rfl rfl rfl rfl (by decide) (fun hPc hDc => rn_V (As := [.int (vw), .int (wk)]) (rest := []) ⟨hx, hb, hml, hown, hts⟩ ((c_X4_asks l g md x vw wk hmb) _) (cw_X4_cost_154_2_42 hts hN ⟨Nat.le_of_ble_eq_true rfl, Nat.le_of_ble_eq_true rfl⟩) hK hN hPc hDc 0 rfl rfl rfl rfl hl.1 (Nat.le_of_ble_eq_true rfl) dX4_cost_3 ⟨Nat.le_of_ble_eq_true rfl, Nat.le_of_ble_eq_true rfl⟩) ?_
  intro r_1 u_2 H locs h_3 hP hD hS
  have hP : va_P g.1 vwCl [(md 0, .inr (4, [.int (gXt u_2), .int (nI (gMi u_2)), .int (nI (gMo u_2)), .int (nI (gMw u_2)), .ref (md 1), .ref (md 2), .ref (md 3), .int (nI (gNi u_2)), .int (nI (gNo u_2)), .ref (md 4), .ref (md 5), .ref (md 6), .int (nI (gNs u_2)), .ref (md 7), .ref (md 8), .int (nI (gNb u_2)), .int (nI (gWd u_2)), .ref (md 9), .long (gTp u_2), .long (gBl u_2), .long (gWt u_2), .long (gWb u_2)])), (md 1, aI g 48 (gLo u_2)), (md 2, aI g 48 (gHi u_2)), (md 3, aZ g 12 (gTr u_2)), (md 4, aI g 48 (gNu u_2)), (md 5, aZ g 12 (gAm u_2)), (md 6, aJ g 13000 (gSd u_2)), (md 7, aJ g 85 (gBd u_2)), (md 8, aJ g 5 (gWy u_2)), (md 9, aI g 5 (fun j => nI ((gCh u_2) j)))] H := hP.sub [0, 1, 2, 3, 4, 5, 6, 7, 8, 9] rfl
  have hD : va_D A [(md 0, .inr (4, [.int (gXt u_2), .int (nI (gMi u_2)), .int (nI (gMo u_2)), .int (nI (gMw u_2)), .ref (md 1), .ref (md 2), .ref (md 3), .int (nI (gNi u_2)), .int (nI (gNo u_2)), .ref (md 4), .ref (md 5), .ref (md 6), .int (nI (gNs u_2)), .ref (md 7), .ref (md 8), .int (nI (gNb u_2)), .int (nI (gWd u_2)), .ref (md 9), .long (gTp u_2), .long (gBl u_2), .long (gWt u_2), .long (gWb u_2)])), (md 1, aI g 48 (gLo u_2)), (md 2, aI g 48 (gHi u_2)), (md 3, aZ g 12 (gTr u_2)), (md 4, aI g 48 (gNu u_2)), (md 5, aZ g 12 (gAm u_2)), (md 6, aJ g 13000 (gSd u_2)), (md 7, aJ g 85 (gBd u_2)), (md 8, aJ g 5 (gWy u_2)), (md 9, aI g 5 (fun j => nI ((gCh u_2) j)))] := hD.sub [0, 1, 2, 3, 4, 5, 6, 7, 8, 9] rfl rfl
  have h_3 : mKeep x u_2 ∧ asP x u_2 vw wk r_1 := h_3
  obtain ⟨hkp, hask⟩ := h_3
  obtain ⟨hk1, hk2, hk3, hk4, hk5, hk6⟩ := id hkp
  refine lv_if_eq (tgt := 67) hx hb dX4_cost_6 (by decide) (fun c_4 => ?_) (fun c_4 => ?_)
  · skip
    have hfin : mcoP x vw wk fi sc wh (-1) := Or.inr ⟨fun z => by have q := z.1; exact asP_0 hask c_4 q.1, rfl⟩
    refine lv_ldc2 (v := -1) hx hb hown (hts _ (List.mem_of_getElem? (i := 2) rfl)) dX4_cost_67 ?_
    exact ret dX4_cost_70 ((gXt u_2, gMi u_2, gMo u_2, gMw u_2, gLo u_2, gHi u_2, gTr u_2, gNi u_2, gNo u_2, gNu u_2, gAm u_2, gSd u_2, gNs u_2, gBd u_2, gWy u_2, gNb u_2, gWd u_2, (gCh u_2), gTp u_2, gBl u_2, gWt u_2, gWb u_2)) (⟨hkp, hfin⟩) hP hD hS
  · skip
    obtain ⟨hac, hp1, hp2, hp3, hp4⟩ := asP_1 hask c_4
    refine lv_iload hx hb dX4_cost_9 (lv_at hl 5 rfl) ?_
    refine lv_iconst (v := nI 0) hx hb dX4_cost_11 (by decide) ?_
    refine lv_iconst (v := nI 1) hx hb dX4_cost_12 (by decide) ?_
    refine go_i (wc := []) (wr := [(md 0, .inr (4, [.int (gXt u_2), .int (nI (gMi u_2)), .int (nI (gMo u_2)), .int (nI (gMw u_2)), .ref (md 1), .ref (md 2), .ref (md 3), .int (nI (gNi u_2)), .int (nI (gNo u_2)), .ref (md 4), .ref (md 5), .ref (md 6), .int (nI (gNs u_2)), .ref (md 7), .ref (md 8), .int (nI (gNb u_2)), .int (nI (gWd u_2)), .ref (md 9), .long (gTp u_2), .long (gBl u_2), .long (gWt u_2), .long (gWb u_2)])), (md 1, aI g 48 (gLo u_2)), (md 2, aI g 48 (gHi u_2)), (md 3, aZ g 12 (gTr u_2)), (md 4, aI g 48 (gNu u_2)), (md 5, aZ g 12 (gAm u_2)), (md 6, aJ g 13000 (gSd u_2)), (md 7, aJ g 85 (gBd u_2)), (md 8, aJ g 5 (gWy u_2)), (md 9, aI g 5 (fun j => nI ((gCh u_2) j)))]) hP hD hS hA [] [0, 1, 2, 3, 4, 5, 6, 7, 8, 9] rfl rfl rfl rfl (by decide) (fun hPc hDc => rn_S (As := [.int (wh), .int (nI 0), .int (nI 1)]) (rest := []) ⟨hx, hb, hml, hown, hts⟩ ((c_X4_isIn l g wh (nI 0) (nI 1) ) _) (cw_X4_cost_52_0_0 hts hN ⟨Nat.le_of_ble_eq_true rfl, Nat.le_of_ble_eq_true rfl⟩) hK hN hPc hDc rfl rfl hl.1 (Nat.le_of_ble_eq_true rfl) dX4_cost_13 ⟨Nat.le_of_ble_eq_true rfl, Nat.le_of_ble_eq_true rfl⟩) ?_
    intro r_5 u_6 H locs h_7 hP hD hS
    have hP : va_P g.1 vwCl [(md 0, .inr (4, [.int (gXt u_2), .int (nI (gMi u_2)), .int (nI (gMo u_2)), .int (nI (gMw u_2)), .ref (md 1), .ref (md 2), .ref (md 3), .int (nI (gNi u_2)), .int (nI (gNo u_2)), .ref (md 4), .ref (md 5), .ref (md 6), .int (nI (gNs u_2)), .ref (md 7), .ref (md 8), .int (nI (gNb u_2)), .int (nI (gWd u_2)), .ref (md 9), .long (gTp u_2), .long (gBl u_2), .long (gWt u_2), .long (gWb u_2)])), (md 1, aI g 48 (gLo u_2)), (md 2, aI g 48 (gHi u_2)), (md 3, aZ g 12 (gTr u_2)), (md 4, aI g 48 (gNu u_2)), (md 5, aZ g 12 (gAm u_2)), (md 6, aJ g 13000 (gSd u_2)), (md 7, aJ g 85 (gBd u_2)), (md 8, aJ g 5 (gWy u_2)), (md 9, aI g 5 (fun j => nI ((gCh u_2) j)))] H := hP.sub [0, 1, 2, 3, 4, 5, 6, 7, 8, 9] rfl
    have hD : va_D A [(md 0, .inr (4, [.int (gXt u_2), .int (nI (gMi u_2)), .int (nI (gMo u_2)), .int (nI (gMw u_2)), .ref (md 1), .ref (md 2), .ref (md 3), .int (nI (gNi u_2)), .int (nI (gNo u_2)), .ref (md 4), .ref (md 5), .ref (md 6), .int (nI (gNs u_2)), .ref (md 7), .ref (md 8), .int (nI (gNb u_2)), .int (nI (gWd u_2)), .ref (md 9), .long (gTp u_2), .long (gBl u_2), .long (gWt u_2), .long (gWb u_2)])), (md 1, aI g 48 (gLo u_2)), (md 2, aI g 48 (gHi u_2)), (md 3, aZ g 12 (gTr u_2)), (md 4, aI g 48 (gNu u_2)), (md 5, aZ g 12 (gAm u_2)), (md 6, aJ g 13000 (gSd u_2)), (md 7, aJ g 85 (gBd u_2)), (md 8, aJ g 5 (gWy u_2)), (md 9, aI g 5 (fun j => nI ((gCh u_2) j)))] := hD.sub [0, 1, 2, 3, 4, 5, 6, 7, 8, 9] rfl rfl
    have h_7 : r_5 = bI (isI wh (nI 0) (nI 1)) := h_7
    subst h_7
    refine lv_if_eq (tgt := 67) hx hb dX4_cost_16 (by decide) (fun c_8 => ?_) (fun c_8 => ?_)
    · skip
      have hfin : mcoP x vw wk fi sc wh (-1) := Or.inr ⟨fun z => by have q := z.1; exact absurd (bI_eq0.mp c_8) (by rw [q.2.1]; decide), rfl⟩
      refine lv_ldc2 (v := -1) hx hb hown (hts _ (List.mem_of_getElem? (i := 2) rfl)) dX4_cost_67 ?_
      exact ret dX4_cost_70 ((gXt u_2, gMi u_2, gMo u_2, gMw u_2, gLo u_2, gHi u_2, gTr u_2, gNi u_2, gNo u_2, gNu u_2, gAm u_2, gSd u_2, gNs u_2, gBd u_2, gWy u_2, gNb u_2, gWd u_2, (gCh u_2), gTp u_2, gBl u_2, gWt u_2, gWb u_2)) (⟨hkp, hfin⟩) hP hD hS
    · skip
      have hwh := bI_ne0.mp c_8
      refine lv_iload_n hx hb dX4_cost_19 rfl (lv_at hl 3 rfl) ?_
      refine lv_iconst (v := nI 0) hx hb dX4_cost_20 (by decide) ?_
      refine lv_bipush (v := nI 30) hx hb dX4_cost_21 (by decide) ?_
      refine go_i (wc := []) (wr := [(md 0, .inr (4, [.int (gXt u_2), .int (nI (gMi u_2)), .int (nI (gMo u_2)), .int (nI (gMw u_2)), .ref (md 1), .ref (md 2), .ref (md 3), .int (nI (gNi u_2)), .int (nI (gNo u_2)), .ref (md 4), .ref (md 5), .ref (md 6), .int (nI (gNs u_2)), .ref (md 7), .ref (md 8), .int (nI (gNb u_2)), .int (nI (gWd u_2)), .ref (md 9), .long (gTp u_2), .long (gBl u_2), .long (gWt u_2), .long (gWb u_2)])), (md 1, aI g 48 (gLo u_2)), (md 2, aI g 48 (gHi u_2)), (md 3, aZ g 12 (gTr u_2)), (md 4, aI g 48 (gNu u_2)), (md 5, aZ g 12 (gAm u_2)), (md 6, aJ g 13000 (gSd u_2)), (md 7, aJ g 85 (gBd u_2)), (md 8, aJ g 5 (gWy u_2)), (md 9, aI g 5 (fun j => nI ((gCh u_2) j)))]) hP hD hS hA [] [0, 1, 2, 3, 4, 5, 6, 7, 8, 9] rfl rfl rfl rfl (by decide) (fun hPc hDc => rn_S (As := [.int (fi), .int (nI 0), .int (nI 30)]) (rest := []) ⟨hx, hb, hml, hown, hts⟩ ((c_X4_isIn l g fi (nI 0) (nI 30) ) _) (cw_X4_cost_52_0_0 hts hN ⟨Nat.le_of_ble_eq_true rfl, Nat.le_of_ble_eq_true rfl⟩) hK hN hPc hDc rfl rfl hl.1 (Nat.le_of_ble_eq_true rfl) dX4_cost_23 ⟨Nat.le_of_ble_eq_true rfl, Nat.le_of_ble_eq_true rfl⟩) ?_
      intro r_9 u_10 H locs h_11 hP hD hS
      have hP : va_P g.1 vwCl [(md 0, .inr (4, [.int (gXt u_2), .int (nI (gMi u_2)), .int (nI (gMo u_2)), .int (nI (gMw u_2)), .ref (md 1), .ref (md 2), .ref (md 3), .int (nI (gNi u_2)), .int (nI (gNo u_2)), .ref (md 4), .ref (md 5), .ref (md 6), .int (nI (gNs u_2)), .ref (md 7), .ref (md 8), .int (nI (gNb u_2)), .int (nI (gWd u_2)), .ref (md 9), .long (gTp u_2), .long (gBl u_2), .long (gWt u_2), .long (gWb u_2)])), (md 1, aI g 48 (gLo u_2)), (md 2, aI g 48 (gHi u_2)), (md 3, aZ g 12 (gTr u_2)), (md 4, aI g 48 (gNu u_2)), (md 5, aZ g 12 (gAm u_2)), (md 6, aJ g 13000 (gSd u_2)), (md 7, aJ g 85 (gBd u_2)), (md 8, aJ g 5 (gWy u_2)), (md 9, aI g 5 (fun j => nI ((gCh u_2) j)))] H := hP.sub [0, 1, 2, 3, 4, 5, 6, 7, 8, 9] rfl
      have hD : va_D A [(md 0, .inr (4, [.int (gXt u_2), .int (nI (gMi u_2)), .int (nI (gMo u_2)), .int (nI (gMw u_2)), .ref (md 1), .ref (md 2), .ref (md 3), .int (nI (gNi u_2)), .int (nI (gNo u_2)), .ref (md 4), .ref (md 5), .ref (md 6), .int (nI (gNs u_2)), .ref (md 7), .ref (md 8), .int (nI (gNb u_2)), .int (nI (gWd u_2)), .ref (md 9), .long (gTp u_2), .long (gBl u_2), .long (gWt u_2), .long (gWb u_2)])), (md 1, aI g 48 (gLo u_2)), (md 2, aI g 48 (gHi u_2)), (md 3, aZ g 12 (gTr u_2)), (md 4, aI g 48 (gNu u_2)), (md 5, aZ g 12 (gAm u_2)), (md 6, aJ g 13000 (gSd u_2)), (md 7, aJ g 85 (gBd u_2)), (md 8, aJ g 5 (gWy u_2)), (md 9, aI g 5 (fun j => nI ((gCh u_2) j)))] := hD.sub [0, 1, 2, 3, 4, 5, 6, 7, 8, 9] rfl rfl
      have h_11 : r_9 = bI (isI fi (nI 0) (nI 30)) := h_11
      subst h_11
      refine lv_if_eq (tgt := 67) hx hb dX4_cost_26 (by decide) (fun c_12 => ?_) (fun c_12 => ?_)
      · skip
        have hfin : mcoP x vw wk fi sc wh (-1) := Or.inr ⟨fun z => by have q := z.1; exact absurd (bI_eq0.mp c_12) (by rw [q.2.2.1]; decide), rfl⟩
        refine lv_ldc2 (v := -1) hx hb hown (hts _ (List.mem_of_getElem? (i := 2) rfl)) dX4_cost_67 ?_
        exact ret dX4_cost_70 ((gXt u_2, gMi u_2, gMo u_2, gMw u_2, gLo u_2, gHi u_2, gTr u_2, gNi u_2, gNo u_2, gNu u_2, gAm u_2, gSd u_2, gNs u_2, gBd u_2, gWy u_2, gNb u_2, gWd u_2, (gCh u_2), gTp u_2, gBl u_2, gWt u_2, gWb u_2)) (⟨hkp, hfin⟩) hP hD hS
      · skip
        have hnf := bI_ne0.mp c_12
        refine lv_aload_n hx hb dX4_cost_29 rfl (lv_at hl 0 rfl) ?_
        refine k_get hx hb hts hown hK hP iw_X4_cost_X4 rfl 0 1 fm_X4_cost_9 (by decide) rfl rfl dX4_cost_30 ?_
        refine lv_iconst (v := nI 1) hx hb dX4_cost_33 (by decide) ?_
        have lp_48 : (1 < gMi x → isI sc (nI 0) (nI 30) = true) → ∀ (H : Heap) (locs : List Loc), va_P g.1 vwCl [(md 0, .inr (4, [.int (gXt u_2), .int (nI (gMi u_2)), .int (nI (gMo u_2)), .int (nI (gMw u_2)), .ref (md 1), .ref (md 2), .ref (md 3), .int (nI (gNi u_2)), .int (nI (gNo u_2)), .ref (md 4), .ref (md 5), .ref (md 6), .int (nI (gNs u_2)), .ref (md 7), .ref (md 8), .int (nI (gNb u_2)), .int (nI (gWd u_2)), .ref (md 9), .long (gTp u_2), .long (gBl u_2), .long (gWt u_2), .long (gWb u_2)])), (md 1, aI g 48 (gLo u_2)), (md 2, aI g 48 (gHi u_2)), (md 3, aZ g 12 (gTr u_2)), (md 4, aI g 48 (gNu u_2)), (md 5, aZ g 12 (gAm u_2)), (md 6, aJ g 13000 (gSd u_2)), (md 7, aJ g 85 (gBd u_2)), (md 8, aJ g 5 (gWy u_2)), (md 9, aI g 5 (fun j => nI ((gCh u_2) j)))] H → va_D A [(md 0, .inr (4, [.int (gXt u_2), .int (nI (gMi u_2)), .int (nI (gMo u_2)), .int (nI (gMw u_2)), .ref (md 1), .ref (md 2), .ref (md 3), .int (nI (gNi u_2)), .int (nI (gNo u_2)), .ref (md 4), .ref (md 5), .ref (md 6), .int (nI (gNs u_2)), .ref (md 7), .ref (md 8), .int (nI (gNb u_2)), .int (nI (gWd u_2)), .ref (md 9), .long (gTp u_2), .long (gBl u_2), .long (gWt u_2), .long (gWb u_2)])), (md 1, aI g 48 (gLo u_2)), (md 2, aI g 48 (gHi u_2)), (md 3, aZ g 12 (gTr u_2)), (md 4, aI g 48 (gNu u_2)), (md 5, aZ g 12 (gAm u_2)), (md 6, aJ g 13000 (gSd u_2)), (md 7, aJ g 85 (gBd u_2)), (md 8, aJ g 5 (gWy u_2)), (md 9, aI g 5 (fun j => nI ((gCh u_2) j)))] → va_S A s.heap H locs → ∀ ls : Array Slot, lv_has ls 9 [(0, .ref (md 0)), (1, .int (vw)), (2, .int (wk)), (3, .int (fi)), (4, .int (sc)), (5, .int (wh))] → W p l e { frames := 13, cells := 0, slots := 0, locals := 327 } s m args below meth c H locs 0 0 Q (F0 m 48 ls []) := by
          intro  hns9 H locs hP hD hS ls hl
          refine lv_iload_n hx hb dX4_cost_48 rfl (lv_at hl 3 rfl) ?_
          refine lv_aload_n hx hb dX4_cost_49 rfl (lv_at hl 0 rfl) ?_
          refine k_get hx hb hts hown hK hP iw_X4_cost_X4 rfl 0 1 fm_X4_cost_9 (by decide) rfl rfl dX4_cost_50 ?_
          refine lv_iconst (v := nI 1) hx hb dX4_cost_53 (by decide) ?_
          have lp_63 : ∀ (sz : Int32), sz = (if 1 < gMi x then sc else nI 0) → ∀ (H : Heap) (locs : List Loc), va_P g.1 vwCl [(md 0, .inr (4, [.int (gXt u_2), .int (nI (gMi u_2)), .int (nI (gMo u_2)), .int (nI (gMw u_2)), .ref (md 1), .ref (md 2), .ref (md 3), .int (nI (gNi u_2)), .int (nI (gNo u_2)), .ref (md 4), .ref (md 5), .ref (md 6), .int (nI (gNs u_2)), .ref (md 7), .ref (md 8), .int (nI (gNb u_2)), .int (nI (gWd u_2)), .ref (md 9), .long (gTp u_2), .long (gBl u_2), .long (gWt u_2), .long (gWb u_2)])), (md 1, aI g 48 (gLo u_2)), (md 2, aI g 48 (gHi u_2)), (md 3, aZ g 12 (gTr u_2)), (md 4, aI g 48 (gNu u_2)), (md 5, aZ g 12 (gAm u_2)), (md 6, aJ g 13000 (gSd u_2)), (md 7, aJ g 85 (gBd u_2)), (md 8, aJ g 5 (gWy u_2)), (md 9, aI g 5 (fun j => nI ((gCh u_2) j)))] H → va_D A [(md 0, .inr (4, [.int (gXt u_2), .int (nI (gMi u_2)), .int (nI (gMo u_2)), .int (nI (gMw u_2)), .ref (md 1), .ref (md 2), .ref (md 3), .int (nI (gNi u_2)), .int (nI (gNo u_2)), .ref (md 4), .ref (md 5), .ref (md 6), .int (nI (gNs u_2)), .ref (md 7), .ref (md 8), .int (nI (gNb u_2)), .int (nI (gWd u_2)), .ref (md 9), .long (gTp u_2), .long (gBl u_2), .long (gWt u_2), .long (gWb u_2)])), (md 1, aI g 48 (gLo u_2)), (md 2, aI g 48 (gHi u_2)), (md 3, aZ g 12 (gTr u_2)), (md 4, aI g 48 (gNu u_2)), (md 5, aZ g 12 (gAm u_2)), (md 6, aJ g 13000 (gSd u_2)), (md 7, aJ g 85 (gBd u_2)), (md 8, aJ g 5 (gWy u_2)), (md 9, aI g 5 (fun j => nI ((gCh u_2) j)))] → va_S A s.heap H locs → ∀ ls : Array Slot, lv_has ls 9 [(0, .ref (md 0)), (1, .int (vw)), (2, .int (wk)), (3, .int (fi)), (4, .int (sc)), (5, .int (wh))] → W p l e { frames := 13, cells := 0, slots := 0, locals := 327 } s m args below meth c H locs 0 0 Q (F0 m 63 ls [.int (sz), .int (fi)]) := by
            intro sz hsz H locs hP hD hS ls hl
            subst hsz
            refine lv_iadd hx hb dX4_cost_63 ?_
            refine lv_if_ne (tgt := 71) hx hb dX4_cost_64 (by decide) (fun c_13 => ?_) (fun c_13 => ?_)
            · skip
              have hcc : mcC x vw wk fi sc wh := ⟨hac, hwh, hnf, hns9, c_13⟩
              obtain ⟨v, hvv, hv0, hv3, hv31⟩ := isI_get (by decide) (by decide) hac.1
              obtain ⟨w, hw, hw31, hww⟩ := inR_nI hac.2.1
              subst hvv
              subst hww
              have hwm : w < 12 := by omega
              refine lv_iconst (v := nI 0) hx hb dX4_cost_71 (by decide) ?_
              refine lv_istore (lv' := [(6, .int (nI 0)), (0, .ref (md 0)), (1, .int (nI v)), (2, .int (nI w)), (3, .int (fi)), (4, .int (sc)), (5, .int (wh))]) hx hb dX4_cost_72 hl (by decide) rfl (fun ls hl => ?_)
              have lp_74 : ∀ (n : Nat) (j : Nat) (f : Nat → Int32), gMw x - j < n → j ≤ gMw x → mpN x fi sc = prN (gMi x) (gMo x) fi sc j (gMw x - j) f → ∀ (H : Heap) (locs : List Loc), va_P g.1 vwCl [(md 0, .inr (4, [.int (gXt u_2), .int (nI (gMi u_2)), .int (nI (gMo u_2)), .int (nI (gMw u_2)), .ref (md 1), .ref (md 2), .ref (md 3), .int (nI (gNi u_2)), .int (nI (gNo u_2)), .ref (md 4), .ref (md 5), .ref (md 6), .int (nI (gNs u_2)), .ref (md 7), .ref (md 8), .int (nI (gNb u_2)), .int (nI (gWd u_2)), .ref (md 9), .long (gTp u_2), .long (gBl u_2), .long (gWt u_2), .long (gWb u_2)])), (md 1, aI g 48 (gLo u_2)), (md 2, aI g 48 (gHi u_2)), (md 3, aZ g 12 (gTr u_2)), (md 4, aI g 48 f), (md 5, aZ g 12 (gAm u_2)), (md 6, aJ g 13000 (gSd u_2)), (md 7, aJ g 85 (gBd u_2)), (md 8, aJ g 5 (gWy u_2)), (md 9, aI g 5 (fun j => nI ((gCh u_2) j)))] H → va_D A [(md 0, .inr (4, [.int (gXt u_2), .int (nI (gMi u_2)), .int (nI (gMo u_2)), .int (nI (gMw u_2)), .ref (md 1), .ref (md 2), .ref (md 3), .int (nI (gNi u_2)), .int (nI (gNo u_2)), .ref (md 4), .ref (md 5), .ref (md 6), .int (nI (gNs u_2)), .ref (md 7), .ref (md 8), .int (nI (gNb u_2)), .int (nI (gWd u_2)), .ref (md 9), .long (gTp u_2), .long (gBl u_2), .long (gWt u_2), .long (gWb u_2)])), (md 1, aI g 48 (gLo u_2)), (md 2, aI g 48 (gHi u_2)), (md 3, aZ g 12 (gTr u_2)), (md 4, aI g 48 f), (md 5, aZ g 12 (gAm u_2)), (md 6, aJ g 13000 (gSd u_2)), (md 7, aJ g 85 (gBd u_2)), (md 8, aJ g 5 (gWy u_2)), (md 9, aI g 5 (fun j => nI ((gCh u_2) j)))] → va_S A s.heap H locs → ∀ ls : Array Slot, lv_has ls 9 [(0, .ref (md 0)), (1, .int (nI v)), (2, .int (nI w)), (3, .int (fi)), (4, .int (sc)), (5, .int (wh)), (6, .int (nI j))] → W p l e { frames := 13, cells := 0, slots := 0, locals := 327 } s m args below meth c H locs 0 0 Q (F0 m 74 ls []) := by
                intro n
                induction n with
                | zero =>
                  intro j f hms
                  omega
                | succ n ih_74 =>
                  intro j f hms_74 hj hv H locs hP hD hS ls hl
                  refine lv_iload hx hb dX4_cost_74 (lv_at hl 6 rfl) ?_
                  refine lv_aload_n hx hb dX4_cost_76 rfl (lv_at hl 0 rfl) ?_
                  refine k_get hx hb hts hown hK hP iw_X4_cost_X4 rfl 0 3 fm_X4_cost_49 (by decide) rfl rfl dX4_cost_77 ?_
                  refine lv_icmp_ge (tgt := 189) hx hb dX4_cost_80 (by decide) (fun c_14 => ?_) (fun c_14 => ?_)
                  · skip
                    have c_14 := (nI_leI (by omega) (by omega)).mp c_14
                    have hff : f = mpN x fi sc := by rw [hv, show gMw x - j = 0 by omega]; rfl
                    clear hv
                    subst hff
                    refine lv_aload_n hx hb dX4_cost_189 rfl (lv_at hl 0 rfl) ?_
                    refine lv_iconst (v := nI 1) hx hb dX4_cost_190 (by decide) ?_
                    refine k_put hx hb hts hown hK hP hD hS iw_X4_cost_X4 rfl tyX4 tyX4_ok nmX4 0 7 fm_X4_cost_64 (by decide) rfl rfl rfl rfl rfl (Nat.le_of_ble_eq_true rfl) dX4_cost_191 (fun H locs hP hD hS => ?_)
                    have hP : va_P g.1 vwCl [(md 0, .inr (4, [.int (gXt u_2), .int (nI (gMi u_2)), .int (nI (gMo u_2)), .int (nI (gMw u_2)), .ref (md 1), .ref (md 2), .ref (md 3), .int (nI 1), .int (nI (gNo u_2)), .ref (md 4), .ref (md 5), .ref (md 6), .int (nI (gNs u_2)), .ref (md 7), .ref (md 8), .int (nI (gNb u_2)), .int (nI (gWd u_2)), .ref (md 9), .long (gTp u_2), .long (gBl u_2), .long (gWt u_2), .long (gWb u_2)])), (md 1, aI g 48 (gLo u_2)), (md 2, aI g 48 (gHi u_2)), (md 3, aZ g 12 (gTr u_2)), (md 4, aI g 48 (mpN x fi sc)), (md 5, aZ g 12 (gAm u_2)), (md 6, aJ g 13000 (gSd u_2)), (md 7, aJ g 85 (gBd u_2)), (md 8, aJ g 5 (gWy u_2)), (md 9, aI g 5 (fun j => nI ((gCh u_2) j)))] H := hP
                    have hD : va_D A [(md 0, .inr (4, [.int (gXt u_2), .int (nI (gMi u_2)), .int (nI (gMo u_2)), .int (nI (gMw u_2)), .ref (md 1), .ref (md 2), .ref (md 3), .int (nI 1), .int (nI (gNo u_2)), .ref (md 4), .ref (md 5), .ref (md 6), .int (nI (gNs u_2)), .ref (md 7), .ref (md 8), .int (nI (gNb u_2)), .int (nI (gWd u_2)), .ref (md 9), .long (gTp u_2), .long (gBl u_2), .long (gWt u_2), .long (gWb u_2)])), (md 1, aI g 48 (gLo u_2)), (md 2, aI g 48 (gHi u_2)), (md 3, aZ g 12 (gTr u_2)), (md 4, aI g 48 (mpN x fi sc)), (md 5, aZ g 12 (gAm u_2)), (md 6, aJ g 13000 (gSd u_2)), (md 7, aJ g 85 (gBd u_2)), (md 8, aJ g 5 (gWy u_2)), (md 9, aI g 5 (fun j => nI ((gCh u_2) j)))] := hD
                    refine lv_aload_n hx hb dX4_cost_194 rfl (lv_at hl 0 rfl) ?_
                    refine k_get hx hb hts hown hK hP iw_X4_cost_X4 rfl 0 9 fm_X4_cost_27 (by decide) rfl rfl dX4_cost_195 ?_
                    refine lv_iconst (v := nI 4) hx hb dX4_cost_198 (by decide) ?_
                    refine lv_iload_n hx hb dX4_cost_199 rfl (lv_at hl 2 rfl) ?_
                    refine lv_imul hx hb dX4_cost_200 ?_
                    refine k_ei (y := nI (w * 4)) ((pk_mul _ _).trans (congrArg nI (Nat.mul_comm _ _))) ?_
                    refine k_iald hx hb hK hP 4 rfl (by omega) (by omega) dX4_cost_201 ?_
                    refine lv_if_ne (tgt := 209) hx hb dX4_cost_202 (by decide) (fun c_15 => ?_) (fun c_15 => ?_)
                    · skip
                      have hpz := c_15
                      rcases (show v = 3 ∨ v ≤ 2 by omega) with rfl | hv2
                      · skip
                        refine lv_aload_n hx hb dX4_cost_209 rfl (lv_at hl 0 rfl) ?_
                        refine lv_iload_n hx hb dX4_cost_210 rfl (lv_at hl 1 rfl) ?_
                        refine lv_iload_n hx hb dX4_cost_211 rfl (lv_at hl 2 rfl) ?_
                        refine go_i (wc := [(md 0, .inr (4, [.int (gXt u_2), .int (nI (gMi u_2)), .int (nI (gMo u_2)), .int (nI (gMw u_2)), .ref (md 1), .ref (md 2), .ref (md 3), .int (nI 1), .int (nI (gNo u_2)), .ref (md 4), .ref (md 5), .ref (md 6), .int (nI (gNs u_2)), .ref (md 7), .ref (md 8), .int (nI (gNb u_2)), .int (nI (gWd u_2)), .ref (md 9), .long (gTp u_2), .long (gBl u_2), .long (gWt u_2), .long (gWb u_2)])), (md 4, aI g 48 (mpN x fi sc)), (md 5, aZ g 12 (gAm u_2))]) (wr := [(md 1, aI g 48 (gLo u_2)), (md 2, aI g 48 (gHi u_2)), (md 3, aZ g 12 (gTr u_2)), (md 6, aJ g 13000 (gSd u_2)), (md 7, aJ g 85 (gBd u_2)), (md 8, aJ g 5 (gWy u_2)), (md 9, aI g 5 (fun j => nI ((gCh u_2) j)))]) hP hD hS hA [0, 4, 5] [1, 2, 3, 6, 7, 8, 9] rfl rfl rfl rfl (by decide) (fun hPc hDc => rn_V (As := [.int (nI 3), .int (nI w)]) (rest := []) ⟨hx, hb, hml, hown, hts⟩ ((c_X4_shares3 l g md (gXt u_2) (gMi u_2) (gMo u_2) (gMw u_2) 1 (gNo u_2) (gNs u_2) (gNb u_2) (gWd u_2) (gTp u_2) (gBl u_2) (gWt u_2) (gWb u_2) (mpN x fi sc) (gAm u_2) w (by omega) (by omega) (by omega) (by omega)) _) (cw_X4_cost_157_2_50 hts hN ⟨Nat.le_of_ble_eq_true rfl, Nat.le_of_ble_eq_true rfl⟩) hK hN hPc hDc 0 rfl rfl rfl rfl hl.1 (Nat.le_of_ble_eq_true rfl) dX4_cost_212 ⟨Nat.le_of_ble_eq_true rfl, Nat.le_of_ble_eq_true rfl⟩) ?_
                        intro r_16 u_17 H locs h_18 hP hD hS
                        have hP : va_P g.1 vwCl [(md 0, .inr (4, [.int (gXt u_2), .int (nI (gMi u_2)), .int (nI (gMo u_2)), .int (nI (gMw u_2)), .ref (md 1), .ref (md 2), .ref (md 3), .int (nI 1), .int (nI (gNo u_2)), .ref (md 4), .ref (md 5), .ref (md 6), .int (nI (gNs u_2)), .ref (md 7), .ref (md 8), .int (nI (gNb u_2)), .int (nI (gWd u_2)), .ref (md 9), .long (u_17.1), .long (u_17.2.1), .long (u_17.2.2.1), .long (u_17.2.2.2)])), (md 1, aI g 48 (gLo u_2)), (md 2, aI g 48 (gHi u_2)), (md 3, aZ g 12 (gTr u_2)), (md 4, aI g 48 (mpN x fi sc)), (md 5, aZ g 12 (gAm u_2)), (md 6, aJ g 13000 (gSd u_2)), (md 7, aJ g 85 (gBd u_2)), (md 8, aJ g 5 (gWy u_2)), (md 9, aI g 5 (fun j => nI ((gCh u_2) j)))] H := hP.sub [7, 0, 1, 2, 8, 9, 3, 4, 5, 6] rfl
                        have hD : va_D A [(md 0, .inr (4, [.int (gXt u_2), .int (nI (gMi u_2)), .int (nI (gMo u_2)), .int (nI (gMw u_2)), .ref (md 1), .ref (md 2), .ref (md 3), .int (nI 1), .int (nI (gNo u_2)), .ref (md 4), .ref (md 5), .ref (md 6), .int (nI (gNs u_2)), .ref (md 7), .ref (md 8), .int (nI (gNb u_2)), .int (nI (gWd u_2)), .ref (md 9), .long (u_17.1), .long (u_17.2.1), .long (u_17.2.2.1), .long (u_17.2.2.2)])), (md 1, aI g 48 (gLo u_2)), (md 2, aI g 48 (gHi u_2)), (md 3, aZ g 12 (gTr u_2)), (md 4, aI g 48 (mpN x fi sc)), (md 5, aZ g 12 (gAm u_2)), (md 6, aJ g 13000 (gSd u_2)), (md 7, aJ g 85 (gBd u_2)), (md 8, aJ g 5 (gWy u_2)), (md 9, aI g 5 (fun j => nI ((gCh u_2) j)))] := hD.sub [7, 0, 1, 2, 8, 9, 3, 4, 5, 6] rfl rfl
                        have h_18 : shW (mpN x fi sc) (gAm u_2) 1 (gNo u_2) (gMw u_2) w (gTp u_2) (gBl u_2) (gWt u_2) (gWb u_2) r_16 u_17.1 u_17.2.1 := h_18
                        have hsh := h_18
                        rw [hp2, hp4, hk3] at hsh
                        refine lv_istore (lv' := [(6, .int (r_16)), (0, .ref (md 0)), (1, .int (nI 3)), (2, .int (nI w)), (3, .int (fi)), (4, .int (sc)), (5, .int (wh))]) hx hb dX4_cost_215 hl (by decide) rfl (fun ls hl => ?_)
                        refine lv_aload_n hx hb dX4_cost_217 rfl (lv_at hl 1 rfl) ?_
                        refine lv_iload hx hb dX4_cost_218 (lv_at hl 6 rfl) ?_
                        have hms : mSh (mpN x fi sc) (plA x) 1 (gMo x) (gMw x) 3 w _ _ _ := Or.inl ⟨rfl, _, _, _, _, hsh⟩
                        refine go_l (wc := [(md 0, .inr (4, [.int (gXt u_2), .int (nI (gMi u_2)), .int (nI (gMo u_2)), .int (nI (gMw u_2)), .ref (md 1), .ref (md 2), .ref (md 3), .int (nI 1), .int (nI (gNo u_2)), .ref (md 4), .ref (md 5), .ref (md 6), .int (nI (gNs u_2)), .ref (md 7), .ref (md 8), .int (nI (gNb u_2)), .int (nI (gWd u_2)), .ref (md 9), .long (u_17.1), .long (u_17.2.1), .long (u_17.2.2.1), .long (u_17.2.2.2)]))]) (wr := [(md 1, aI g 48 (gLo u_2)), (md 2, aI g 48 (gHi u_2)), (md 3, aZ g 12 (gTr u_2)), (md 4, aI g 48 (mpN x fi sc)), (md 5, aZ g 12 (gAm u_2)), (md 6, aJ g 13000 (gSd u_2)), (md 7, aJ g 85 (gBd u_2)), (md 8, aJ g 5 (gWy u_2)), (md 9, aI g 5 (fun j => nI ((gCh u_2) j)))]) hP hD hS hA [0] [1, 2, 3, 4, 5, 6, 7, 8, 9] rfl rfl rfl rfl (by decide) (fun hPc hDc => rn_V (As := [.int (wh)]) (rest := []) ⟨hx, hb, hml, hown, hts⟩ ((c_X4_part l g md (gXt u_2) (gMi u_2) (gMo u_2) (gMw u_2) 1 (gNo u_2) (gNs u_2) (gNb u_2) (gWd u_2) u_17.1 u_17.2.1 u_17.2.2.1 u_17.2.2.2 wh (cmD_nz (mSh_nz hw (by rw [plA_at hw]; have := hac.2.2.1; rw [wN_n hw31] at this; exact this) hms))) _) (cw_X4_cost_160_2_69 hts hN ⟨Nat.le_of_ble_eq_true rfl, Nat.le_of_ble_eq_true rfl⟩) hK hN hPc hDc 0 rfl rfl rfl rfl hl.1 (Nat.le_of_ble_eq_true rfl) dX4_cost_220 ⟨Nat.le_of_ble_eq_true rfl, Nat.le_of_ble_eq_true rfl⟩) ?_
                        intro r_19 u_20 H locs h_21 hP hD hS
                        have hP : va_P g.1 vwCl [(md 0, .inr (4, [.int (gXt u_2), .int (nI (gMi u_2)), .int (nI (gMo u_2)), .int (nI (gMw u_2)), .ref (md 1), .ref (md 2), .ref (md 3), .int (nI 1), .int (nI (gNo u_2)), .ref (md 4), .ref (md 5), .ref (md 6), .int (nI (gNs u_2)), .ref (md 7), .ref (md 8), .int (nI (gNb u_2)), .int (nI (gWd u_2)), .ref (md 9), .long (u_17.1), .long (u_17.2.1), .long (u_17.2.2.1), .long (u_17.2.2.2)])), (md 1, aI g 48 (gLo u_2)), (md 2, aI g 48 (gHi u_2)), (md 3, aZ g 12 (gTr u_2)), (md 4, aI g 48 (mpN x fi sc)), (md 5, aZ g 12 (gAm u_2)), (md 6, aJ g 13000 (gSd u_2)), (md 7, aJ g 85 (gBd u_2)), (md 8, aJ g 5 (gWy u_2)), (md 9, aI g 5 (fun j => nI ((gCh u_2) j)))] H := hP.sub [9, 0, 1, 2, 3, 4, 5, 6, 7, 8] rfl
                        have hD : va_D A [(md 0, .inr (4, [.int (gXt u_2), .int (nI (gMi u_2)), .int (nI (gMo u_2)), .int (nI (gMw u_2)), .ref (md 1), .ref (md 2), .ref (md 3), .int (nI 1), .int (nI (gNo u_2)), .ref (md 4), .ref (md 5), .ref (md 6), .int (nI (gNs u_2)), .ref (md 7), .ref (md 8), .int (nI (gNb u_2)), .int (nI (gWd u_2)), .ref (md 9), .long (u_17.1), .long (u_17.2.1), .long (u_17.2.2.1), .long (u_17.2.2.2)])), (md 1, aI g 48 (gLo u_2)), (md 2, aI g 48 (gHi u_2)), (md 3, aZ g 12 (gTr u_2)), (md 4, aI g 48 (mpN x fi sc)), (md 5, aZ g 12 (gAm u_2)), (md 6, aJ g 13000 (gSd u_2)), (md 7, aJ g 85 (gBd u_2)), (md 8, aJ g 5 (gWy u_2)), (md 9, aI g 5 (fun j => nI ((gCh u_2) j)))] := hD.sub [9, 0, 1, 2, 3, 4, 5, 6, 7, 8] rfl rfl
                        have h_21 : r_19 = ptM u_17.1 u_17.2.1 wh := h_21
                        subst h_21
                        exact ret dX4_cost_223 ((gXt u_2, gMi u_2, gMo u_2, gMw u_2, gLo u_2, gHi u_2, gTr u_2, 1, gNo u_2, mpN x fi sc, gAm u_2, gSd u_2, gNs u_2, gBd u_2, gWy u_2, gNb u_2, gWd u_2, (gCh u_2), u_17.1, u_17.2.1, u_17.2.2.1, u_17.2.2.2)) (⟨hkp, Or.inl ⟨⟨hcc, by rw [wN_n hw31]; exact hpz⟩, _, _, _, by rw [wN_n hw31, wN_n (by decide)]; exact hms, rfl⟩⟩) hP hD hS
                      · skip
                        refine lv_aload_n hx hb dX4_cost_209 rfl (lv_at hl 0 rfl) ?_
                        refine lv_iload_n hx hb dX4_cost_210 rfl (lv_at hl 1 rfl) ?_
                        refine lv_iload_n hx hb dX4_cost_211 rfl (lv_at hl 2 rfl) ?_
                        refine go_i (wc := [(md 0, .inr (4, [.int (gXt u_2), .int (nI (gMi u_2)), .int (nI (gMo u_2)), .int (nI (gMw u_2)), .ref (md 1), .ref (md 2), .ref (md 3), .int (nI 1), .int (nI (gNo u_2)), .ref (md 4), .ref (md 5), .ref (md 6), .int (nI (gNs u_2)), .ref (md 7), .ref (md 8), .int (nI (gNb u_2)), .int (nI (gWd u_2)), .ref (md 9), .long (gTp u_2), .long (gBl u_2), .long (gWt u_2), .long (gWb u_2)])), (md 4, aI g 48 (mpN x fi sc)), (md 5, aZ g 12 (gAm u_2)), (md 7, aJ g 85 (gBd u_2)), (md 9, aI g 5 (fun j => nI ((gCh u_2) j))), (md 8, aJ g 5 (gWy u_2)), (md 6, aJ g 13000 (gSd u_2))]) (wr := [(md 1, aI g 48 (gLo u_2)), (md 2, aI g 48 (gHi u_2)), (md 3, aZ g 12 (gTr u_2))]) hP hD hS hA [0, 4, 5, 7, 9, 8, 6] [1, 2, 3] rfl rfl rfl rfl (by decide) (fun hPc hDc => rn_V (As := [.int (nI v), .int (nI w)]) (rest := []) ⟨hx, hb, hml, hown, hts⟩ ((c_X4_shares l g md (gXt u_2) (gMi u_2) (gMo u_2) (gMw u_2) 1 (gNo u_2) (gNs u_2) (gNb u_2) (gWd u_2) (gTp u_2) (gBl u_2) (gWt u_2) (gWb u_2) (mpN x fi sc) (gAm u_2) (gBd u_2) (gCh u_2) (gWy u_2) (gSd u_2) v w (by omega) (by omega) (by omega) (by omega) (by omega) (by omega) (by omega)) _) (cw_X4_cost_157_12_299 hts hN ⟨Nat.le_of_ble_eq_true rfl, Nat.le_of_ble_eq_true rfl⟩) hK hN hPc hDc 0 rfl rfl rfl rfl hl.1 (Nat.le_of_ble_eq_true rfl) dX4_cost_212 ⟨Nat.le_of_ble_eq_true rfl, Nat.le_of_ble_eq_true rfl⟩) ?_
                        intro r_22 u_23 H locs h_24 hP hD hS
                        have hP : va_P g.1 vwCl [(md 0, .inr (4, [.int (gXt u_2), .int (nI (gMi u_2)), .int (nI (gMo u_2)), .int (nI (gMw u_2)), .ref (md 1), .ref (md 2), .ref (md 3), .int (nI 1), .int (nI (gNo u_2)), .ref (md 4), .ref (md 5), .ref (md 6), .int (nI u_23.1), .ref (md 7), .ref (md 8), .int (nI u_23.2.1), .int (nI u_23.2.2.1), .ref (md 9), .long (u_23.2.2.2.2.2.2.2.1), .long (u_23.2.2.2.2.2.2.2.2), .long (gWt u_2), .long (gWb u_2)])), (md 1, aI g 48 (gLo u_2)), (md 2, aI g 48 (gHi u_2)), (md 3, aZ g 12 (gTr u_2)), (md 4, aI g 48 (mpN x fi sc)), (md 5, aZ g 12 (gAm u_2)), (md 6, aJ g 13000 u_23.2.2.2.2.2.2.1), (md 7, aJ g 85 u_23.2.2.2.1), (md 8, aJ g 5 u_23.2.2.2.2.2.1), (md 9, aI g 5 (fun j => nI (u_23.2.2.2.2.1 j)))] H := hP.sub [3, 0, 1, 2, 4, 5, 9, 6, 8, 7] rfl
                        have hD : va_D A [(md 0, .inr (4, [.int (gXt u_2), .int (nI (gMi u_2)), .int (nI (gMo u_2)), .int (nI (gMw u_2)), .ref (md 1), .ref (md 2), .ref (md 3), .int (nI 1), .int (nI (gNo u_2)), .ref (md 4), .ref (md 5), .ref (md 6), .int (nI u_23.1), .ref (md 7), .ref (md 8), .int (nI u_23.2.1), .int (nI u_23.2.2.1), .ref (md 9), .long (u_23.2.2.2.2.2.2.2.1), .long (u_23.2.2.2.2.2.2.2.2), .long (gWt u_2), .long (gWb u_2)])), (md 1, aI g 48 (gLo u_2)), (md 2, aI g 48 (gHi u_2)), (md 3, aZ g 12 (gTr u_2)), (md 4, aI g 48 (mpN x fi sc)), (md 5, aZ g 12 (gAm u_2)), (md 6, aJ g 13000 u_23.2.2.2.2.2.2.1), (md 7, aJ g 85 u_23.2.2.2.1), (md 8, aJ g 5 u_23.2.2.2.2.2.1), (md 9, aI g 5 (fun j => nI (u_23.2.2.2.2.1 j)))] := hD.sub [3, 0, 1, 2, 4, 5, 9, 6, 8, 7] rfl rfl
                        have h_24 : shQ (mpN x fi sc) (gAm u_2) 1 (gNo u_2) (gMw u_2) v w (gTp u_2) (gBl u_2) r_22 u_23.1 u_23.2.2.2.2.2.2.1 u_23.2.2.2.2.2.2.2.1 u_23.2.2.2.2.2.2.2.2 := h_24
                        have hsh := h_24
                        rw [hp2, hp4, hk3] at hsh
                        refine lv_istore (lv' := [(6, .int (r_22)), (0, .ref (md 0)), (1, .int (nI v)), (2, .int (nI w)), (3, .int (fi)), (4, .int (sc)), (5, .int (wh))]) hx hb dX4_cost_215 hl (by decide) rfl (fun ls hl => ?_)
                        refine lv_aload_n hx hb dX4_cost_217 rfl (lv_at hl 1 rfl) ?_
                        refine lv_iload hx hb dX4_cost_218 (lv_at hl 6 rfl) ?_
                        have hms : mSh (mpN x fi sc) (plA x) 1 (gMo x) (gMw x) v w _ _ _ := Or.inr ⟨hv2, _, _, _, _, hsh⟩
                        refine go_l (wc := [(md 0, .inr (4, [.int (gXt u_2), .int (nI (gMi u_2)), .int (nI (gMo u_2)), .int (nI (gMw u_2)), .ref (md 1), .ref (md 2), .ref (md 3), .int (nI 1), .int (nI (gNo u_2)), .ref (md 4), .ref (md 5), .ref (md 6), .int (nI u_23.1), .ref (md 7), .ref (md 8), .int (nI u_23.2.1), .int (nI u_23.2.2.1), .ref (md 9), .long (u_23.2.2.2.2.2.2.2.1), .long (u_23.2.2.2.2.2.2.2.2), .long (gWt u_2), .long (gWb u_2)]))]) (wr := [(md 1, aI g 48 (gLo u_2)), (md 2, aI g 48 (gHi u_2)), (md 3, aZ g 12 (gTr u_2)), (md 4, aI g 48 (mpN x fi sc)), (md 5, aZ g 12 (gAm u_2)), (md 6, aJ g 13000 u_23.2.2.2.2.2.2.1), (md 7, aJ g 85 u_23.2.2.2.1), (md 8, aJ g 5 u_23.2.2.2.2.2.1), (md 9, aI g 5 (fun j => nI (u_23.2.2.2.2.1 j)))]) hP hD hS hA [0] [1, 2, 3, 4, 5, 6, 7, 8, 9] rfl rfl rfl rfl (by decide) (fun hPc hDc => rn_V (As := [.int (wh)]) (rest := []) ⟨hx, hb, hml, hown, hts⟩ ((c_X4_part l g md (gXt u_2) (gMi u_2) (gMo u_2) (gMw u_2) 1 (gNo u_2) u_23.1 u_23.2.1 u_23.2.2.1 u_23.2.2.2.2.2.2.2.1 u_23.2.2.2.2.2.2.2.2 (gWt u_2) (gWb u_2) wh (cmD_nz (mSh_nz hw (by rw [plA_at hw]; have := hac.2.2.1; rw [wN_n hw31] at this; exact this) hms))) _) (cw_X4_cost_160_2_69 hts hN ⟨Nat.le_of_ble_eq_true rfl, Nat.le_of_ble_eq_true rfl⟩) hK hN hPc hDc 0 rfl rfl rfl rfl hl.1 (Nat.le_of_ble_eq_true rfl) dX4_cost_220 ⟨Nat.le_of_ble_eq_true rfl, Nat.le_of_ble_eq_true rfl⟩) ?_
                        intro r_25 u_26 H locs h_27 hP hD hS
                        have hP : va_P g.1 vwCl [(md 0, .inr (4, [.int (gXt u_2), .int (nI (gMi u_2)), .int (nI (gMo u_2)), .int (nI (gMw u_2)), .ref (md 1), .ref (md 2), .ref (md 3), .int (nI 1), .int (nI (gNo u_2)), .ref (md 4), .ref (md 5), .ref (md 6), .int (nI u_23.1), .ref (md 7), .ref (md 8), .int (nI u_23.2.1), .int (nI u_23.2.2.1), .ref (md 9), .long (u_23.2.2.2.2.2.2.2.1), .long (u_23.2.2.2.2.2.2.2.2), .long (gWt u_2), .long (gWb u_2)])), (md 1, aI g 48 (gLo u_2)), (md 2, aI g 48 (gHi u_2)), (md 3, aZ g 12 (gTr u_2)), (md 4, aI g 48 (mpN x fi sc)), (md 5, aZ g 12 (gAm u_2)), (md 6, aJ g 13000 u_23.2.2.2.2.2.2.1), (md 7, aJ g 85 u_23.2.2.2.1), (md 8, aJ g 5 u_23.2.2.2.2.2.1), (md 9, aI g 5 (fun j => nI (u_23.2.2.2.2.1 j)))] H := hP.sub [9, 0, 1, 2, 3, 4, 5, 6, 7, 8] rfl
                        have hD : va_D A [(md 0, .inr (4, [.int (gXt u_2), .int (nI (gMi u_2)), .int (nI (gMo u_2)), .int (nI (gMw u_2)), .ref (md 1), .ref (md 2), .ref (md 3), .int (nI 1), .int (nI (gNo u_2)), .ref (md 4), .ref (md 5), .ref (md 6), .int (nI u_23.1), .ref (md 7), .ref (md 8), .int (nI u_23.2.1), .int (nI u_23.2.2.1), .ref (md 9), .long (u_23.2.2.2.2.2.2.2.1), .long (u_23.2.2.2.2.2.2.2.2), .long (gWt u_2), .long (gWb u_2)])), (md 1, aI g 48 (gLo u_2)), (md 2, aI g 48 (gHi u_2)), (md 3, aZ g 12 (gTr u_2)), (md 4, aI g 48 (mpN x fi sc)), (md 5, aZ g 12 (gAm u_2)), (md 6, aJ g 13000 u_23.2.2.2.2.2.2.1), (md 7, aJ g 85 u_23.2.2.2.1), (md 8, aJ g 5 u_23.2.2.2.2.2.1), (md 9, aI g 5 (fun j => nI (u_23.2.2.2.2.1 j)))] := hD.sub [9, 0, 1, 2, 3, 4, 5, 6, 7, 8] rfl rfl
                        have h_27 : r_25 = ptM u_23.2.2.2.2.2.2.2.1 u_23.2.2.2.2.2.2.2.2 wh := h_27
                        subst h_27
                        exact ret dX4_cost_223 ((gXt u_2, gMi u_2, gMo u_2, gMw u_2, gLo u_2, gHi u_2, gTr u_2, 1, gNo u_2, mpN x fi sc, gAm u_2, u_23.2.2.2.2.2.2.1, u_23.1, u_23.2.2.2.1, u_23.2.2.2.2.2.1, u_23.2.1, u_23.2.2.1, u_23.2.2.2.2.1, u_23.2.2.2.2.2.2.2.1, u_23.2.2.2.2.2.2.2.2, gWt u_2, gWb u_2)) (⟨hkp, Or.inl ⟨⟨hcc, by rw [wN_n hw31]; exact hpz⟩, _, _, _, by rw [wN_n hw31, wN_n hv31]; exact hms, rfl⟩⟩) hP hD hS
                    · skip
                      have hfin : mcoP x (nI v) (nI w) fi sc wh (-1) := Or.inr ⟨fun z => z.2 (by rw [wN_n hw31]; exact c_15), rfl⟩
                      refine lv_ldc2 (v := -1) hx hb hown (hts _ (List.mem_of_getElem? (i := 2) rfl)) dX4_cost_205 ?_
                      exact ret dX4_cost_208 ((gXt u_2, gMi u_2, gMo u_2, gMw u_2, gLo u_2, gHi u_2, gTr u_2, 1, gNo u_2, mpN x fi sc, gAm u_2, gSd u_2, gNs u_2, gBd u_2, gWy u_2, gNb u_2, gWd u_2, (gCh u_2), gTp u_2, gBl u_2, gWt u_2, gWb u_2)) (⟨hkp, hfin⟩) hP hD hS
                  · skip
                    have c_14 := mt (nI_leI (by omega) (by omega)).mpr c_14
                    refine lv_iload_n hx hb dX4_cost_83 rfl (lv_at hl 3 rfl) ?_
                    refine lv_aload_n hx hb dX4_cost_84 rfl (lv_at hl 0 rfl) ?_
                    refine k_get hx hb hts hown hK hP iw_X4_cost_X4 rfl 0 9 fm_X4_cost_27 (by decide) rfl rfl dX4_cost_85 ?_
                    refine lv_iconst (v := nI 4) hx hb dX4_cost_88 (by decide) ?_
                    refine lv_iload hx hb dX4_cost_89 (lv_at hl 6 rfl) ?_
                    refine lv_imul hx hb dX4_cost_91 ?_
                    refine k_ei (y := nI (j * 4)) ((pk_mul _ _).trans (congrArg nI (Nat.mul_comm _ _))) ?_
                    refine k_iald hx hb hK hP 4 rfl (by omega) (by omega) dX4_cost_92 ?_
                    refine lv_imul hx hb dX4_cost_93 ?_
                    refine k_ei (y := fi * f (j * 4)) (rfl) ?_
                    refine lv_aload_n hx hb dX4_cost_94 rfl (lv_at hl 0 rfl) ?_
                    refine k_get hx hb hts hown hK hP iw_X4_cost_X4 rfl 0 1 fm_X4_cost_9 (by decide) rfl rfl dX4_cost_95 ?_
                    refine lv_iconst (v := nI 1) hx hb dX4_cost_98 (by decide) ?_
                    have lp_120 : ∀ (sx : Int32), sx = (if 1 < gMi x then sc * f (j * 4 + 1) else nI 0) → ∀ (H : Heap) (locs : List Loc), va_P g.1 vwCl [(md 0, .inr (4, [.int (gXt u_2), .int (nI (gMi u_2)), .int (nI (gMo u_2)), .int (nI (gMw u_2)), .ref (md 1), .ref (md 2), .ref (md 3), .int (nI (gNi u_2)), .int (nI (gNo u_2)), .ref (md 4), .ref (md 5), .ref (md 6), .int (nI (gNs u_2)), .ref (md 7), .ref (md 8), .int (nI (gNb u_2)), .int (nI (gWd u_2)), .ref (md 9), .long (gTp u_2), .long (gBl u_2), .long (gWt u_2), .long (gWb u_2)])), (md 1, aI g 48 (gLo u_2)), (md 2, aI g 48 (gHi u_2)), (md 3, aZ g 12 (gTr u_2)), (md 4, aI g 48 f), (md 5, aZ g 12 (gAm u_2)), (md 6, aJ g 13000 (gSd u_2)), (md 7, aJ g 85 (gBd u_2)), (md 8, aJ g 5 (gWy u_2)), (md 9, aI g 5 (fun j => nI ((gCh u_2) j)))] H → va_D A [(md 0, .inr (4, [.int (gXt u_2), .int (nI (gMi u_2)), .int (nI (gMo u_2)), .int (nI (gMw u_2)), .ref (md 1), .ref (md 2), .ref (md 3), .int (nI (gNi u_2)), .int (nI (gNo u_2)), .ref (md 4), .ref (md 5), .ref (md 6), .int (nI (gNs u_2)), .ref (md 7), .ref (md 8), .int (nI (gNb u_2)), .int (nI (gWd u_2)), .ref (md 9), .long (gTp u_2), .long (gBl u_2), .long (gWt u_2), .long (gWb u_2)])), (md 1, aI g 48 (gLo u_2)), (md 2, aI g 48 (gHi u_2)), (md 3, aZ g 12 (gTr u_2)), (md 4, aI g 48 f), (md 5, aZ g 12 (gAm u_2)), (md 6, aJ g 13000 (gSd u_2)), (md 7, aJ g 85 (gBd u_2)), (md 8, aJ g 5 (gWy u_2)), (md 9, aI g 5 (fun j => nI ((gCh u_2) j)))] → va_S A s.heap H locs → ∀ ls : Array Slot, lv_has ls 9 [(0, .ref (md 0)), (1, .int (nI v)), (2, .int (nI w)), (3, .int (fi)), (4, .int (sc)), (5, .int (wh)), (6, .int (nI j))] → W p l e { frames := 13, cells := 0, slots := 0, locals := 327 } s m args below meth c H locs 0 0 Q (F0 m 120 ls [.int (sx), .int (fi * f (j * 4))]) := by
                      intro sx hsx H locs hP hD hS ls hl
                      subst hsx
                      refine lv_iadd hx hb dX4_cost_120 ?_
                      refine k_ei (y := prV f (gMi x) fi sc j) ((prV_eq hmi1 hmi).symm) ?_
                      refine lv_istore (lv' := [(7, .int (prV f (gMi x) fi sc j)), (0, .ref (md 0)), (1, .int (nI v)), (2, .int (nI w)), (3, .int (fi)), (4, .int (sc)), (5, .int (wh)), (6, .int (nI j))]) hx hb dX4_cost_121 hl (by decide) rfl (fun ls hl => ?_)
                      refine lv_iconst (v := nI 0) hx hb dX4_cost_123 (by decide) ?_
                      refine lv_istore (lv' := [(8, .int (nI 0)), (7, .int (prV f (gMi x) fi sc j)), (0, .ref (md 0)), (1, .int (nI v)), (2, .int (nI w)), (3, .int (fi)), (4, .int (sc)), (5, .int (wh)), (6, .int (nI j))]) hx hb dX4_cost_124 hl (by decide) rfl (fun ls hl => ?_)
                      have lp_126 : ∀ (n : Nat) (k : Nat) (h : Nat → Int32), gMo x - k < n → k ≤ 2 → shI j (gMi x) 0 (gMo x) f = shI j (gMi x) k (gMo x - k) h → ∀ (H : Heap) (locs : List Loc), va_P g.1 vwCl [(md 0, .inr (4, [.int (gXt u_2), .int (nI (gMi u_2)), .int (nI (gMo u_2)), .int (nI (gMw u_2)), .ref (md 1), .ref (md 2), .ref (md 3), .int (nI (gNi u_2)), .int (nI (gNo u_2)), .ref (md 4), .ref (md 5), .ref (md 6), .int (nI (gNs u_2)), .ref (md 7), .ref (md 8), .int (nI (gNb u_2)), .int (nI (gWd u_2)), .ref (md 9), .long (gTp u_2), .long (gBl u_2), .long (gWt u_2), .long (gWb u_2)])), (md 1, aI g 48 (gLo u_2)), (md 2, aI g 48 (gHi u_2)), (md 3, aZ g 12 (gTr u_2)), (md 4, aI g 48 h), (md 5, aZ g 12 (gAm u_2)), (md 6, aJ g 13000 (gSd u_2)), (md 7, aJ g 85 (gBd u_2)), (md 8, aJ g 5 (gWy u_2)), (md 9, aI g 5 (fun j => nI ((gCh u_2) j)))] H → va_D A [(md 0, .inr (4, [.int (gXt u_2), .int (nI (gMi u_2)), .int (nI (gMo u_2)), .int (nI (gMw u_2)), .ref (md 1), .ref (md 2), .ref (md 3), .int (nI (gNi u_2)), .int (nI (gNo u_2)), .ref (md 4), .ref (md 5), .ref (md 6), .int (nI (gNs u_2)), .ref (md 7), .ref (md 8), .int (nI (gNb u_2)), .int (nI (gWd u_2)), .ref (md 9), .long (gTp u_2), .long (gBl u_2), .long (gWt u_2), .long (gWb u_2)])), (md 1, aI g 48 (gLo u_2)), (md 2, aI g 48 (gHi u_2)), (md 3, aZ g 12 (gTr u_2)), (md 4, aI g 48 h), (md 5, aZ g 12 (gAm u_2)), (md 6, aJ g 13000 (gSd u_2)), (md 7, aJ g 85 (gBd u_2)), (md 8, aJ g 5 (gWy u_2)), (md 9, aI g 5 (fun j => nI ((gCh u_2) j)))] → va_S A s.heap H locs → ∀ ls : Array Slot, lv_has ls 9 [(0, .ref (md 0)), (1, .int (nI v)), (2, .int (nI w)), (3, .int (fi)), (4, .int (sc)), (5, .int (wh)), (6, .int (nI j)), (7, .int (prV f (gMi x) fi sc j)), (8, .int (nI k))] → W p l e { frames := 13, cells := 0, slots := 0, locals := 327 } s m args below meth c H locs 0 0 Q (F0 m 126 ls []) := by
                        intro n
                        induction n with
                        | zero =>
                          intro k h hms
                          omega
                        | succ n ih_126 =>
                          intro k h hms_126 hk hI H locs hP hD hS ls hl
                          refine lv_iload hx hb dX4_cost_126 (lv_at hl 8 rfl) ?_
                          refine lv_aload_n hx hb dX4_cost_128 rfl (lv_at hl 0 rfl) ?_
                          refine k_get hx hb hts hown hK hP iw_X4_cost_X4 rfl 0 2 fm_X4_cost_13 (by decide) rfl rfl dX4_cost_129 ?_
                          refine lv_icmp_ge (tgt := 172) hx hb dX4_cost_132 (by decide) (fun c_28 => ?_) (fun c_28 => ?_)
                          · skip
                            have c_28 := (nI_leI (by omega) (by omega)).mp c_28
                            have hsf : shI j (gMi x) 0 (gMo x) f = h := by rw [hI, show gMo x - k = 0 by omega]; rfl
                            have hv2 : mpN x fi sc = prN (gMi x) (gMo x) fi sc (j + 1) (gMw x - (j + 1)) (upd h (j * 4) (prV f (gMi x) fi sc j)) := by rw [hv, show gMw x - j = (gMw x - (j + 1)) + 1 by omega, prN, prR, hsf]
                            refine lv_aload_n hx hb dX4_cost_172 rfl (lv_at hl 0 rfl) ?_
                            refine k_get hx hb hts hown hK hP iw_X4_cost_X4 rfl 0 9 fm_X4_cost_27 (by decide) rfl rfl dX4_cost_173 ?_
                            refine lv_iconst (v := nI 4) hx hb dX4_cost_176 (by decide) ?_
                            refine lv_iload hx hb dX4_cost_177 (lv_at hl 6 rfl) ?_
                            refine lv_imul hx hb dX4_cost_179 ?_
                            refine k_ei (y := nI (j * 4)) ((pk_mul _ _).trans (congrArg nI (Nat.mul_comm _ _))) ?_
                            refine lv_iload hx hb dX4_cost_180 (lv_at hl 7 rfl) ?_
                            refine k_iast hx hb hK hP hD hS 4 rfl (by omega) (by omega) dX4_cost_182 (fun H locs hP hD hS => ?_)
                            have hP : va_P g.1 vwCl [(md 0, .inr (4, [.int (gXt u_2), .int (nI (gMi u_2)), .int (nI (gMo u_2)), .int (nI (gMw u_2)), .ref (md 1), .ref (md 2), .ref (md 3), .int (nI (gNi u_2)), .int (nI (gNo u_2)), .ref (md 4), .ref (md 5), .ref (md 6), .int (nI (gNs u_2)), .ref (md 7), .ref (md 8), .int (nI (gNb u_2)), .int (nI (gWd u_2)), .ref (md 9), .long (gTp u_2), .long (gBl u_2), .long (gWt u_2), .long (gWb u_2)])), (md 1, aI g 48 (gLo u_2)), (md 2, aI g 48 (gHi u_2)), (md 3, aZ g 12 (gTr u_2)), (md 4, aI g 48 (upd h (j * 4) (prV f (gMi x) fi sc j))), (md 5, aZ g 12 (gAm u_2)), (md 6, aJ g 13000 (gSd u_2)), (md 7, aJ g 85 (gBd u_2)), (md 8, aJ g 5 (gWy u_2)), (md 9, aI g 5 (fun j => nI ((gCh u_2) j)))] H := hP
                            have hD : va_D A [(md 0, .inr (4, [.int (gXt u_2), .int (nI (gMi u_2)), .int (nI (gMo u_2)), .int (nI (gMw u_2)), .ref (md 1), .ref (md 2), .ref (md 3), .int (nI (gNi u_2)), .int (nI (gNo u_2)), .ref (md 4), .ref (md 5), .ref (md 6), .int (nI (gNs u_2)), .ref (md 7), .ref (md 8), .int (nI (gNb u_2)), .int (nI (gWd u_2)), .ref (md 9), .long (gTp u_2), .long (gBl u_2), .long (gWt u_2), .long (gWb u_2)])), (md 1, aI g 48 (gLo u_2)), (md 2, aI g 48 (gHi u_2)), (md 3, aZ g 12 (gTr u_2)), (md 4, aI g 48 (upd h (j * 4) (prV f (gMi x) fi sc j))), (md 5, aZ g 12 (gAm u_2)), (md 6, aJ g 13000 (gSd u_2)), (md 7, aJ g 85 (gBd u_2)), (md 8, aJ g 5 (gWy u_2)), (md 9, aI g 5 (fun j => nI ((gCh u_2) j)))] := hD
                            refine lv_iinc (v := nI (j + 1)) (lv' := [(6, .int (nI (j + 1))), (0, .ref (md 0)), (1, .int (nI v)), (2, .int (nI w)), (3, .int (fi)), (4, .int (sc)), (5, .int (wh)), (7, .int (prV f (gMi x) fi sc j)), (8, .int (nI k))]) hx hb dX4_cost_183 hl (k := 6) rfl (nI_inc1 j) (by decide) rfl (fun ls hl => ?_)
                            refine lv_goto (tgt := 74) hx hb dX4_cost_186 (by decide) ?_
                            exact ih_74 (j + 1) (upd h (j * 4) (prV f (gMi x) fi sc j)) (by omega) (by omega) hv2 _ _ hP hD hS ls (lv_sub hl [1, 2, 3, 4, 5, 6, 0] rfl)
                          · skip
                            have c_28 := mt (nI_leI (by omega) (by omega)).mpr c_28
                            refine lv_aload_n hx hb dX4_cost_135 rfl (lv_at hl 0 rfl) ?_
                            refine k_get hx hb hts hown hK hP iw_X4_cost_X4 rfl 0 9 fm_X4_cost_27 (by decide) rfl rfl dX4_cost_136 ?_
                            refine lv_iconst (v := nI 4) hx hb dX4_cost_139 (by decide) ?_
                            refine lv_iload hx hb dX4_cost_140 (lv_at hl 6 rfl) ?_
                            refine lv_imul hx hb dX4_cost_142 ?_
                            refine k_ei (y := nI (j * 4)) ((pk_mul _ _).trans (congrArg nI (Nat.mul_comm _ _))) ?_
                            refine lv_iconst (v := nI 1) hx hb dX4_cost_143 (by decide) ?_
                            refine lv_iadd hx hb dX4_cost_144 ?_
                            refine k_ei (y := nI (j * 4 + 1)) (nI_add _ _) ?_
                            refine lv_iload hx hb dX4_cost_145 (lv_at hl 8 rfl) ?_
                            refine lv_iadd hx hb dX4_cost_147 ?_
                            refine k_ei (y := nI (j * 4 + 1 + k)) (nI_add _ _) ?_
                            refine lv_aload_n hx hb dX4_cost_148 rfl (lv_at hl 0 rfl) ?_
                            refine k_get hx hb hts hown hK hP iw_X4_cost_X4 rfl 0 9 fm_X4_cost_27 (by decide) rfl rfl dX4_cost_149 ?_
                            refine lv_iconst (v := nI 4) hx hb dX4_cost_152 (by decide) ?_
                            refine lv_iload hx hb dX4_cost_153 (lv_at hl 6 rfl) ?_
                            refine lv_imul hx hb dX4_cost_155 ?_
                            refine k_ei (y := nI (j * 4)) ((pk_mul _ _).trans (congrArg nI (Nat.mul_comm _ _))) ?_
                            refine lv_aload_n hx hb dX4_cost_156 rfl (lv_at hl 0 rfl) ?_
                            refine k_get hx hb hts hown hK hP iw_X4_cost_X4 rfl 0 1 fm_X4_cost_9 (by decide) rfl rfl dX4_cost_157 ?_
                            refine lv_iadd hx hb dX4_cost_160 ?_
                            refine k_ei (y := nI (j * 4 + (gMi u_2))) (nI_add _ _) ?_
                            refine lv_iload hx hb dX4_cost_161 (lv_at hl 8 rfl) ?_
                            refine lv_iadd hx hb dX4_cost_163 ?_
                            refine k_ei (y := nI (j * 4 + (gMi u_2) + k)) (nI_add _ _) ?_
                            refine k_iald hx hb hK hP 4 rfl (by omega) (by omega) dX4_cost_164 ?_
                            refine k_ei (y := h (j * 4 + (gMi x + k))) (by rw [hk1, Nat.add_assoc]) ?_
                            refine k_iast hx hb hK hP hD hS 4 rfl (by omega) (by omega) dX4_cost_165 (fun H locs hP hD hS => ?_)
                            have hP : va_P g.1 vwCl [(md 0, .inr (4, [.int (gXt u_2), .int (nI (gMi u_2)), .int (nI (gMo u_2)), .int (nI (gMw u_2)), .ref (md 1), .ref (md 2), .ref (md 3), .int (nI (gNi u_2)), .int (nI (gNo u_2)), .ref (md 4), .ref (md 5), .ref (md 6), .int (nI (gNs u_2)), .ref (md 7), .ref (md 8), .int (nI (gNb u_2)), .int (nI (gWd u_2)), .ref (md 9), .long (gTp u_2), .long (gBl u_2), .long (gWt u_2), .long (gWb u_2)])), (md 1, aI g 48 (gLo u_2)), (md 2, aI g 48 (gHi u_2)), (md 3, aZ g 12 (gTr u_2)), (md 4, aI g 48 (upd h (j * 4 + 1 + k) (h (j * 4 + (gMi x + k))))), (md 5, aZ g 12 (gAm u_2)), (md 6, aJ g 13000 (gSd u_2)), (md 7, aJ g 85 (gBd u_2)), (md 8, aJ g 5 (gWy u_2)), (md 9, aI g 5 (fun j => nI ((gCh u_2) j)))] H := hP
                            have hD : va_D A [(md 0, .inr (4, [.int (gXt u_2), .int (nI (gMi u_2)), .int (nI (gMo u_2)), .int (nI (gMw u_2)), .ref (md 1), .ref (md 2), .ref (md 3), .int (nI (gNi u_2)), .int (nI (gNo u_2)), .ref (md 4), .ref (md 5), .ref (md 6), .int (nI (gNs u_2)), .ref (md 7), .ref (md 8), .int (nI (gNb u_2)), .int (nI (gWd u_2)), .ref (md 9), .long (gTp u_2), .long (gBl u_2), .long (gWt u_2), .long (gWb u_2)])), (md 1, aI g 48 (gLo u_2)), (md 2, aI g 48 (gHi u_2)), (md 3, aZ g 12 (gTr u_2)), (md 4, aI g 48 (upd h (j * 4 + 1 + k) (h (j * 4 + (gMi x + k))))), (md 5, aZ g 12 (gAm u_2)), (md 6, aJ g 13000 (gSd u_2)), (md 7, aJ g 85 (gBd u_2)), (md 8, aJ g 5 (gWy u_2)), (md 9, aI g 5 (fun j => nI ((gCh u_2) j)))] := hD
                            refine lv_iinc (v := nI (k + 1)) (lv' := [(8, .int (nI (k + 1))), (0, .ref (md 0)), (1, .int (nI v)), (2, .int (nI w)), (3, .int (fi)), (4, .int (sc)), (5, .int (wh)), (6, .int (nI j)), (7, .int (prV f (gMi x) fi sc j))]) hx hb dX4_cost_166 hl (k := 8) rfl (nI_inc1 k) (by decide) rfl (fun ls hl => ?_)
                            refine lv_goto (tgt := 126) hx hb dX4_cost_169 (by decide) ?_
                            exact ih_126 (k + 1) (upd h (j * 4 + 1 + k) (h (j * 4 + (gMi x + k)))) (by omega) (by omega) (by rw [hI, show gMo x - k = (gMo x - (k + 1)) + 1 by omega, shI]) _ _ hP hD hS ls (lv_sub hl [1, 2, 3, 4, 5, 6, 7, 8, 0] rfl)
                      exact lp_126 (gMo x - 0 + 1) 0 f (by omega) (by omega) rfl _ _ hP hD hS ls (lv_sub hl [2, 3, 4, 5, 6, 7, 8, 1, 0] rfl)
                    refine lv_icmp_le (tgt := 119) hx hb dX4_cost_99 (by decide) (fun c_29 => ?_) (fun c_29 => ?_)
                    · skip
                      have c_29 := (nI_leI (by omega) (by omega)).mp c_29
                      have hsx : nI 0 = (if 1 < gMi x then sc * f (j * 4 + 1) else nI 0) := (if_neg (by omega)).symm
                      refine lv_iconst (v := nI 0) hx hb dX4_cost_119 (by decide) ?_
                      exact lp_120 (nI 0) hsx _ _ hP hD hS ls (lv_sub hl [0, 1, 2, 3, 4, 5, 6] rfl)
                    · skip
                      have c_29 := mt (nI_leI (by omega) (by omega)).mpr c_29
                      have hsx : sc * f (j * 4 + 1) = (if 1 < gMi x then sc * f (j * 4 + 1) else nI 0) := (if_pos (by omega)).symm
                      refine lv_iload hx hb dX4_cost_102 (lv_at hl 4 rfl) ?_
                      refine lv_aload_n hx hb dX4_cost_104 rfl (lv_at hl 0 rfl) ?_
                      refine k_get hx hb hts hown hK hP iw_X4_cost_X4 rfl 0 9 fm_X4_cost_27 (by decide) rfl rfl dX4_cost_105 ?_
                      refine lv_iconst (v := nI 4) hx hb dX4_cost_108 (by decide) ?_
                      refine lv_iload hx hb dX4_cost_109 (lv_at hl 6 rfl) ?_
                      refine lv_imul hx hb dX4_cost_111 ?_
                      refine k_ei (y := nI (j * 4)) ((pk_mul _ _).trans (congrArg nI (Nat.mul_comm _ _))) ?_
                      refine lv_iconst (v := nI 1) hx hb dX4_cost_112 (by decide) ?_
                      refine lv_iadd hx hb dX4_cost_113 ?_
                      refine k_ei (y := nI (j * 4 + 1)) (nI_add _ _) ?_
                      refine k_iald hx hb hK hP 4 rfl (by omega) (by omega) dX4_cost_114 ?_
                      refine lv_imul hx hb dX4_cost_115 ?_
                      refine k_ei (y := sc * f (j * 4 + 1)) (rfl) ?_
                      refine lv_goto (tgt := 120) hx hb dX4_cost_116 (by decide) ?_
                      exact lp_120 (sc * f (j * 4 + 1)) hsx _ _ hP hD hS ls (lv_sub hl [0, 1, 2, 3, 4, 5, 6] rfl)
              exact lp_74 (gMw x - 0 + 1) 0 (gNu u_2) (by omega) (by omega) (by rw [hp3]; rfl) _ _ hP hD hS ls (lv_sub hl [1, 2, 3, 4, 5, 6, 0] rfl)
            · skip
              have hfin : mcoP x vw wk fi sc wh (-1) := Or.inr ⟨fun z => by have q := z.1; exact q.2.2.2.2 c_13, rfl⟩
              refine lv_ldc2 (v := -1) hx hb hown (hts _ (List.mem_of_getElem? (i := 2) rfl)) dX4_cost_67 ?_
              exact ret dX4_cost_70 ((gXt u_2, gMi u_2, gMo u_2, gMw u_2, gLo u_2, gHi u_2, gTr u_2, gNi u_2, gNo u_2, gNu u_2, gAm u_2, gSd u_2, gNs u_2, gBd u_2, gWy u_2, gNb u_2, gWd u_2, (gCh u_2), gTp u_2, gBl u_2, gWt u_2, gWb u_2)) (⟨hkp, hfin⟩) hP hD hS
          refine lv_icmp_le (tgt := 62) hx hb dX4_cost_54 (by decide) (fun c_30 => ?_) (fun c_30 => ?_)
          · skip
            have c_30 := (nI_leI (by omega) (by omega)).mp c_30
            have hsz : nI 0 = (if 1 < gMi x then sc else nI 0) := (if_neg (by omega)).symm
            refine lv_iconst (v := nI 0) hx hb dX4_cost_62 (by decide) ?_
            exact lp_63 (nI 0) hsz _ _ hP hD hS ls (lv_sub hl [0, 1, 2, 3, 4, 5] rfl)
          · skip
            have c_30 := mt (nI_leI (by omega) (by omega)).mpr c_30
            have hsz : sc = (if 1 < gMi x then sc else nI 0) := (if_pos (by omega)).symm
            refine lv_iload hx hb dX4_cost_57 (lv_at hl 4 rfl) ?_
            refine lv_goto (tgt := 63) hx hb dX4_cost_59 (by decide) ?_
            exact lp_63 sc hsz _ _ hP hD hS ls (lv_sub hl [0, 1, 2, 3, 4, 5] rfl)
        refine lv_icmp_le (tgt := 48) hx hb dX4_cost_34 (by decide) (fun c_31 => ?_) (fun c_31 => ?_)
        · skip
          have c_31 := (nI_leI (by omega) (by omega)).mp c_31
          have hns9 : 1 < gMi x → isI sc (nI 0) (nI 30) = true := fun q => absurd q (by omega)
          exact lp_48  hns9 _ _ hP hD hS ls (lv_sub hl [0, 1, 2, 3, 4, 5] rfl)
        · skip
          have c_31 := mt (nI_leI (by omega) (by omega)).mpr c_31
          have h1m : 1 < gMi x := by omega
          refine lv_iload hx hb dX4_cost_37 (lv_at hl 4 rfl) ?_
          refine lv_iconst (v := nI 0) hx hb dX4_cost_39 (by decide) ?_
          refine lv_bipush (v := nI 30) hx hb dX4_cost_40 (by decide) ?_
          refine go_i (wc := []) (wr := [(md 0, .inr (4, [.int (gXt u_2), .int (nI (gMi u_2)), .int (nI (gMo u_2)), .int (nI (gMw u_2)), .ref (md 1), .ref (md 2), .ref (md 3), .int (nI (gNi u_2)), .int (nI (gNo u_2)), .ref (md 4), .ref (md 5), .ref (md 6), .int (nI (gNs u_2)), .ref (md 7), .ref (md 8), .int (nI (gNb u_2)), .int (nI (gWd u_2)), .ref (md 9), .long (gTp u_2), .long (gBl u_2), .long (gWt u_2), .long (gWb u_2)])), (md 1, aI g 48 (gLo u_2)), (md 2, aI g 48 (gHi u_2)), (md 3, aZ g 12 (gTr u_2)), (md 4, aI g 48 (gNu u_2)), (md 5, aZ g 12 (gAm u_2)), (md 6, aJ g 13000 (gSd u_2)), (md 7, aJ g 85 (gBd u_2)), (md 8, aJ g 5 (gWy u_2)), (md 9, aI g 5 (fun j => nI ((gCh u_2) j)))]) hP hD hS hA [] [0, 1, 2, 3, 4, 5, 6, 7, 8, 9] rfl rfl rfl rfl (by decide) (fun hPc hDc => rn_S (As := [.int (sc), .int (nI 0), .int (nI 30)]) (rest := []) ⟨hx, hb, hml, hown, hts⟩ ((c_X4_isIn l g sc (nI 0) (nI 30) ) _) (cw_X4_cost_52_0_0 hts hN ⟨Nat.le_of_ble_eq_true rfl, Nat.le_of_ble_eq_true rfl⟩) hK hN hPc hDc rfl rfl hl.1 (Nat.le_of_ble_eq_true rfl) dX4_cost_42 ⟨Nat.le_of_ble_eq_true rfl, Nat.le_of_ble_eq_true rfl⟩) ?_
          intro r_32 u_33 H locs h_34 hP hD hS
          have hP : va_P g.1 vwCl [(md 0, .inr (4, [.int (gXt u_2), .int (nI (gMi u_2)), .int (nI (gMo u_2)), .int (nI (gMw u_2)), .ref (md 1), .ref (md 2), .ref (md 3), .int (nI (gNi u_2)), .int (nI (gNo u_2)), .ref (md 4), .ref (md 5), .ref (md 6), .int (nI (gNs u_2)), .ref (md 7), .ref (md 8), .int (nI (gNb u_2)), .int (nI (gWd u_2)), .ref (md 9), .long (gTp u_2), .long (gBl u_2), .long (gWt u_2), .long (gWb u_2)])), (md 1, aI g 48 (gLo u_2)), (md 2, aI g 48 (gHi u_2)), (md 3, aZ g 12 (gTr u_2)), (md 4, aI g 48 (gNu u_2)), (md 5, aZ g 12 (gAm u_2)), (md 6, aJ g 13000 (gSd u_2)), (md 7, aJ g 85 (gBd u_2)), (md 8, aJ g 5 (gWy u_2)), (md 9, aI g 5 (fun j => nI ((gCh u_2) j)))] H := hP.sub [0, 1, 2, 3, 4, 5, 6, 7, 8, 9] rfl
          have hD : va_D A [(md 0, .inr (4, [.int (gXt u_2), .int (nI (gMi u_2)), .int (nI (gMo u_2)), .int (nI (gMw u_2)), .ref (md 1), .ref (md 2), .ref (md 3), .int (nI (gNi u_2)), .int (nI (gNo u_2)), .ref (md 4), .ref (md 5), .ref (md 6), .int (nI (gNs u_2)), .ref (md 7), .ref (md 8), .int (nI (gNb u_2)), .int (nI (gWd u_2)), .ref (md 9), .long (gTp u_2), .long (gBl u_2), .long (gWt u_2), .long (gWb u_2)])), (md 1, aI g 48 (gLo u_2)), (md 2, aI g 48 (gHi u_2)), (md 3, aZ g 12 (gTr u_2)), (md 4, aI g 48 (gNu u_2)), (md 5, aZ g 12 (gAm u_2)), (md 6, aJ g 13000 (gSd u_2)), (md 7, aJ g 85 (gBd u_2)), (md 8, aJ g 5 (gWy u_2)), (md 9, aI g 5 (fun j => nI ((gCh u_2) j)))] := hD.sub [0, 1, 2, 3, 4, 5, 6, 7, 8, 9] rfl rfl
          have h_34 : r_32 = bI (isI sc (nI 0) (nI 30)) := h_34
          subst h_34
          refine lv_if_eq (tgt := 67) hx hb dX4_cost_45 (by decide) (fun c_35 => ?_) (fun c_35 => ?_)
          · skip
            have hfin : mcoP x vw wk fi sc wh (-1) := Or.inr ⟨fun z => by have q := z.1; exact absurd (bI_eq0.mp c_35) (by rw [q.2.2.2.1 h1m]; decide), rfl⟩
            refine lv_ldc2 (v := -1) hx hb hown (hts _ (List.mem_of_getElem? (i := 2) rfl)) dX4_cost_67 ?_
            exact ret dX4_cost_70 ((gXt u_2, gMi u_2, gMo u_2, gMw u_2, gLo u_2, gHi u_2, gTr u_2, gNi u_2, gNo u_2, gNu u_2, gAm u_2, gSd u_2, gNs u_2, gBd u_2, gWy u_2, gNb u_2, gWd u_2, (gCh u_2), gTp u_2, gBl u_2, gWt u_2, gWb u_2)) (⟨hkp, hfin⟩) hP hD hS
          · skip
            have hns9 : 1 < gMi x → isI sc (nI 0) (nI 30) = true := fun _ => bI_ne0.mp c_35
            exact lp_48  hns9 _ _ hP hD hS ls (lv_sub hl [0, 1, 2, 3, 4, 5] rfl)
theorem cw_X4_span_154_2_42 {R : Room} {s : State} {args : Array Value} (hts : ∀ w ∈ wsX4_span, w.before args s = true) (hN : nsW s) (hR : 2 + 1 ≤ R.frames ∧ 8 + (3 + 11) + 42 ≤ R.locals) : CallW R s args RX4 RX4 154 yX4_asks cX4_asks 3 (some .boolean) wsX4_asks { frames := 2, cells := 0, slots := 0, locals := 42 } 0 0 2 := cwV 2 hts gX4_span_X4_asks rfl rfl rfl ⟨rfl, hdn_X4_asks⟩ hR
theorem cw_X4_span_52_0_0 {R : Room} {s : State} {args : Array Value} (hts : ∀ w ∈ wsX4_span, w.before args s = true) (hN : nsW s) (hR : 0 + 1 ≤ R.frames ∧ 8 + (3 + 11) + 0 ≤ R.locals) : CallB R s args RX4 52 yX4_isIn cX4_isIn 3 (some .boolean) wsX4_isIn { frames := 0, cells := 0, slots := 0, locals := 0 } 0 0 3 ∧ (Cond.static yX4_isIn).before args s = true := va_cwS 3 hts gX4_span_X4_isIn rfl rfl rfl hdn_X4_isIn hR
theorem cw_X4_span_170_1_20 {R : Room} {s : State} {args : Array Value} (hts : ∀ w ∈ wsX4_span, w.before args s = true) (hN : nsW s) (hR : 1 + 1 ≤ R.frames ∧ 8 + (4 + 11) + 20 ≤ R.locals) : CallW R s args RX4 RX4 170 yX4_missingThere cX4_missingThere 4 (some .int) wsX4_missingThere { frames := 1, cells := 0, slots := 0, locals := 20 } 0 0 0 := cwV 0 hts gX4_span_X4_missingThere rfl rfl rfl ⟨rfl, hdn_X4_missingThere⟩ hR
theorem iw_X4_span_X4 : ∀ w ∈ wsX40, w ∈ wsX4_span := fun w h => List.mem_cons_of_mem _ (List.mem_append_right _ h)
theorem fm_X4_span_49 : Cond.fieldLink RX4 49 "EdgeBenchModel" "works" "I" ∈ wsX4_span := List.mem_of_getElem? (i := 2) rfl
theorem cw_X4_span_157_2_50 {R : Room} {s : State} {args : Array Value} (hts : ∀ w ∈ wsX4_span, w.before args s = true) (hN : nsW s) (hR : 2 + 1 ≤ R.frames ∧ 8 + (9 + 11) + 50 ≤ R.locals) : CallW R s args RX4 RX4 157 yX4_shares cX4_shares 9 (some .boolean) wsX4_shares { frames := 2, cells := 0, slots := 0, locals := 50 } 0 0 2 := cwV 2 hts gX4_span_X4_shares rfl rfl rfl ⟨rfl, hdn_X4_shares⟩ hR
theorem cw_X4_span_160_2_69 {R : Room} {s : State} {args : Array Value} (hts : ∀ w ∈ wsX4_span, w.before args s = true) (hN : nsW s) (hR : 2 + 1 ≤ R.frames ∧ 8 + (4 + 11) + 69 ≤ R.locals) : CallW R s args RX4 RX4 160 yX4_part cX4_part 4 (some .long) wsX4_part { frames := 2, cells := 0, slots := 0, locals := 69 } 0 0 1 := cwV 1 hts gX4_span_X4_part rfl rfl rfl ⟨rfl, hdn_X4_part⟩ hR
theorem cw_X4_span_157_12_299 {R : Room} {s : State} {args : Array Value} (hts : ∀ w ∈ wsX4_span, w.before args s = true) (hN : nsW s) (hR : 12 + 1 ≤ R.frames ∧ 8 + (9 + 11) + 299 ≤ R.locals) : CallW R s args RX4 RX4 157 yX4_shares cX4_shares 9 (some .boolean) wsX4_shares { frames := 12, cells := 0, slots := 0, locals := 299 } 0 0 2 := cwV 2 hts gX4_span_X4_shares rfl rfl rfl ⟨rfl, hdn_X4_shares⟩ hR
theorem fm_X4_span_23 : Cond.fieldLink RX4 23 "EdgeBenchModel" "there" "[Z" ∈ wsX4_span := List.mem_of_getElem? (i := 3) rfl
theorem cw_X4_span_56_0_0 {R : Room} {s : State} {args : Array Value} (hts : ∀ w ∈ wsX4_span, w.before args s = true) (hN : nsW s) (hR : 0 + 1 ≤ R.frames ∧ 8 + (1 + 11) + 0 ≤ R.locals) : CallW R s args RX4 RX4 56 yX4_things cX4_things 1 (some .int) wsX4_things { frames := 0, cells := 0, slots := 0, locals := 0 } 0 0 0 := cwV 0 hts gX4_span_X4_things rfl rfl rfl ⟨rfl, hdn_X4_things⟩ hR
theorem fm_X4_span_27 : Cond.fieldLink RX4 27 "EdgeBenchModel" "number" "[I" ∈ wsX4_span := List.mem_of_getElem? (i := 6) rfl
theorem fm_X4_span_9 : Cond.fieldLink RX4 9 "EdgeBenchModel" "ins" "I" ∈ wsX4_span := List.mem_of_getElem? (i := 4) rfl
theorem fm_X4_span_20 : Cond.fieldLink RX4 20 "EdgeBenchModel" "high" "[I" ∈ wsX4_span := List.mem_of_getElem? (i := 7) rfl
theorem fm_X4_span_16 : Cond.fieldLink RX4 16 "EdgeBenchModel" "low" "[I" ∈ wsX4_span := List.mem_of_getElem? (i := 5) rfl
set_option maxHeartbeats 20000000 in
set_option maxRecDepth 100000 in
theorem c_X4_span (l : Launch) (g : Gt) (md : Nat → Nat) (x : MS) (vw : Int32) (wk : Int32) (gr : Int32) (wh : Int32) (hmb : mBen x) : CL l yX4_span wsX4_span { frames := 13, cells := 0, slots := 0, locals := 327 } g [.ref (md 0), .int (vw), .int (wk), .int (gr), .int (wh)] [(md 0, .inr (4, [.int (gXt x), .int (nI (gMi x)), .int (nI (gMo x)), .int (nI (gMw x)), .ref (md 1), .ref (md 2), .ref (md 3), .int (nI (gNi x)), .int (nI (gNo x)), .ref (md 4), .ref (md 5), .ref (md 6), .int (nI (gNs x)), .ref (md 7), .ref (md 8), .int (nI (gNb x)), .int (nI (gWd x)), .ref (md 9), .long (gTp x), .long (gBl x), .long (gWt x), .long (gWb x)])), (md 1, aI g 48 (gLo x)), (md 2, aI g 48 (gHi x)), (md 3, aZ g 12 (gTr x)), (md 4, aI g 48 (gNu x)), (md 5, aZ g 12 (gAm x)), (md 6, aJ g 13000 (gSd x)), (md 7, aJ g 85 (gBd x)), (md 8, aJ g 5 (gWy x)), (md 9, aI g 5 (fun j => nI ((gCh x) j)))] (fun zr (zu : MS) => mKeep x zu ∧ msnP x vw wk gr wh zr) (fun (zu : MS) => [(md 0, .inr (4, [.int (gXt zu), .int (nI (gMi zu)), .int (nI (gMo zu)), .int (nI (gMw zu)), .ref (md 1), .ref (md 2), .ref (md 3), .int (nI (gNi zu)), .int (nI (gNo zu)), .ref (md 4), .ref (md 5), .ref (md 6), .int (nI (gNs zu)), .ref (md 7), .ref (md 8), .int (nI (gNb zu)), .int (nI (gWd zu)), .ref (md 9), .long (gTp zu), .long (gBl zu), .long (gWt zu), .long (gWb zu)])), (md 1, aI g 48 (gLo zu)), (md 2, aI g 48 (gHi zu)), (md 3, aZ g 12 (gTr zu)), (md 4, aI g 48 (gNu zu)), (md 5, aZ g 12 (gAm zu)), (md 6, aJ g 13000 (gSd zu)), (md 7, aJ g 85 (gBd zu)), (md 8, aJ g 5 (gWy zu)), (md 9, aI g 5 (fun j => nI ((gCh zu) j)))]) 0 0 := by
  refine ent_l (cc := cX4_span) (maxL := 10) (by decide) rfl (Nat.le_of_ble_eq_true rfl) ?_
  intro p e s m below meth c A args Q hE ret ls hl
  obtain ⟨hx, hb, hml, hown, hts, hnm, hA, hP, hD, hK, hN⟩ := hE
  have hS : va_S A s.heap s.heap [] := va_S.rf
  have hl : lv_has ls 10 [(0, .ref (md 0)), (1, .int (vw)), (2, .int (wk)), (3, .int (gr)), (4, .int (wh))] := hl
  have hP : va_P g.1 vwCl [(md 0, .inr (4, [.int (gXt x), .int (nI (gMi x)), .int (nI (gMo x)), .int (nI (gMw x)), .ref (md 1), .ref (md 2), .ref (md 3), .int (nI (gNi x)), .int (nI (gNo x)), .ref (md 4), .ref (md 5), .ref (md 6), .int (nI (gNs x)), .ref (md 7), .ref (md 8), .int (nI (gNb x)), .int (nI (gWd x)), .ref (md 9), .long (gTp x), .long (gBl x), .long (gWt x), .long (gWb x)])), (md 1, aI g 48 (gLo x)), (md 2, aI g 48 (gHi x)), (md 3, aZ g 12 (gTr x)), (md 4, aI g 48 (gNu x)), (md 5, aZ g 12 (gAm x)), (md 6, aJ g 13000 (gSd x)), (md 7, aJ g 85 (gBd x)), (md 8, aJ g 5 (gWy x)), (md 9, aI g 5 (fun j => nI ((gCh x) j)))] s.heap := hP
  obtain ⟨⟨hmi1, hmi⟩, ⟨hmo1, hmo⟩, hmw, htr⟩ := id hmb
  have hmsl := msO_le (gLo x) (gHi x) (gTr x) (gMi x + gMo x) (gMw x) 0
  have hms48 : msO (gLo x) (gHi x) (gTr x) (gMi x + gMo x) 0 (gMw x) ≤ 48 := Nat.le_trans hmsl (Nat.le_trans (Nat.mul_le_mul hmw (show gMi x + gMo x ≤ 4 by omega)) (by decide))
  clear hmsl
  obtain ⟨ms0, hms0⟩ : ∃ z, z = msO (gLo x) (gHi x) (gTr x) (gMi x + gMo x) 0 (gMw x) := ⟨_, rfl⟩
  rw [← hms0] at hms48
  refine lv_aload_n hx hb dX4_span_0 rfl (lv_at hl 0 rfl) ?_
  refine lv_iload_n hx hb dX4_span_1 rfl (lv_at hl 1 rfl) ?_
  refine lv_iload_n hx hb dX4_span_2 rfl (lv_at hl 2 rfl) ?_
  refine go_i (wc := [(md 0, .inr (4, [.int (gXt x), .int (nI (gMi x)), .int (nI (gMo x)), .int (nI (gMw x)), .ref (md 1), .ref (md 2), .ref (md 3), .int (nI (gNi x)), .int (nI (gNo x)), .ref (md 4), .ref (md 5), .ref (md 6), .int (nI (gNs x)), .ref (md 7), .ref (md 8), .int (nI (gNb x)), .int (nI (gWd x)), .ref (md 9), .long (gTp x), .long (gBl x), .long (gWt x), .long (gWb x)])), (md 1, aI g 48 (gLo x)), (md 2, aI g 48 (gHi x)), (md 3, aZ g 12 (gTr x)), (md 4, aI g 48 (gNu x)), (md 5, aZ g 12 (gAm x)), (md 6, aJ g 13000 (gSd x)), (md 7, aJ g 85 (gBd x)), (md 8, aJ g 5 (gWy x)), (md 9, aI g 5 (fun j => nI ((gCh x) j)))]) (wr := []) hP hD hS hA [0, 1, 2, 3, 4, 5, 6, 7, 8, 9] [] rfl rfl rfl rfl (by decide) (fun hPc hDc => rn_V (As := [.int (vw), .int (wk)]) (rest := []) ⟨hx, hb, hml, hown, hts⟩ ((c_X4_asks l g md x vw wk hmb) _) (cw_X4_span_154_2_42 hts hN ⟨Nat.le_of_ble_eq_true rfl, Nat.le_of_ble_eq_true rfl⟩) hK hN hPc hDc 0 rfl rfl rfl rfl hl.1 (Nat.le_of_ble_eq_true rfl) dX4_span_3 ⟨Nat.le_of_ble_eq_true rfl, Nat.le_of_ble_eq_true rfl⟩) ?_
  intro r_1 u_2 H locs h_3 hP hD hS
  have hP : va_P g.1 vwCl [(md 0, .inr (4, [.int (gXt u_2), .int (nI (gMi u_2)), .int (nI (gMo u_2)), .int (nI (gMw u_2)), .ref (md 1), .ref (md 2), .ref (md 3), .int (nI (gNi u_2)), .int (nI (gNo u_2)), .ref (md 4), .ref (md 5), .ref (md 6), .int (nI (gNs u_2)), .ref (md 7), .ref (md 8), .int (nI (gNb u_2)), .int (nI (gWd u_2)), .ref (md 9), .long (gTp u_2), .long (gBl u_2), .long (gWt u_2), .long (gWb u_2)])), (md 1, aI g 48 (gLo u_2)), (md 2, aI g 48 (gHi u_2)), (md 3, aZ g 12 (gTr u_2)), (md 4, aI g 48 (gNu u_2)), (md 5, aZ g 12 (gAm u_2)), (md 6, aJ g 13000 (gSd u_2)), (md 7, aJ g 85 (gBd u_2)), (md 8, aJ g 5 (gWy u_2)), (md 9, aI g 5 (fun j => nI ((gCh u_2) j)))] H := hP.sub [0, 1, 2, 3, 4, 5, 6, 7, 8, 9] rfl
  have hD : va_D A [(md 0, .inr (4, [.int (gXt u_2), .int (nI (gMi u_2)), .int (nI (gMo u_2)), .int (nI (gMw u_2)), .ref (md 1), .ref (md 2), .ref (md 3), .int (nI (gNi u_2)), .int (nI (gNo u_2)), .ref (md 4), .ref (md 5), .ref (md 6), .int (nI (gNs u_2)), .ref (md 7), .ref (md 8), .int (nI (gNb u_2)), .int (nI (gWd u_2)), .ref (md 9), .long (gTp u_2), .long (gBl u_2), .long (gWt u_2), .long (gWb u_2)])), (md 1, aI g 48 (gLo u_2)), (md 2, aI g 48 (gHi u_2)), (md 3, aZ g 12 (gTr u_2)), (md 4, aI g 48 (gNu u_2)), (md 5, aZ g 12 (gAm u_2)), (md 6, aJ g 13000 (gSd u_2)), (md 7, aJ g 85 (gBd u_2)), (md 8, aJ g 5 (gWy u_2)), (md 9, aI g 5 (fun j => nI ((gCh u_2) j)))] := hD.sub [0, 1, 2, 3, 4, 5, 6, 7, 8, 9] rfl rfl
  have h_3 : mKeep x u_2 ∧ asP x u_2 vw wk r_1 := h_3
  obtain ⟨hkp, hask⟩ := h_3
  obtain ⟨hk1, hk2, hk3, hk4, hk5, hk6⟩ := id hkp
  refine lv_if_eq (tgt := 27) hx hb dX4_span_6 (by decide) (fun c_4 => ?_) (fun c_4 => ?_)
  · skip
    have hfin : msnP x vw wk gr wh (-1) := Or.inr ⟨fun q => asP_0 hask c_4 q.1, rfl⟩
    refine lv_ldc2 (v := -1) hx hb hown (hts _ (List.mem_of_getElem? (i := 1) rfl)) dX4_span_27 ?_
    exact ret dX4_span_30 ((gXt u_2, gMi u_2, gMo u_2, gMw u_2, gLo u_2, gHi u_2, gTr u_2, gNi u_2, gNo u_2, gNu u_2, gAm u_2, gSd u_2, gNs u_2, gBd u_2, gWy u_2, gNb u_2, gWd u_2, (gCh u_2), gTp u_2, gBl u_2, gWt u_2, gWb u_2)) (⟨hkp, hfin⟩) hP hD hS
  · skip
    obtain ⟨hac, hp1, hp2, hp3, hp4⟩ := asP_1 hask c_4
    refine lv_iload hx hb dX4_span_9 (lv_at hl 4 rfl) ?_
    refine lv_iconst (v := nI 0) hx hb dX4_span_11 (by decide) ?_
    refine lv_iconst (v := nI 1) hx hb dX4_span_12 (by decide) ?_
    refine go_i (wc := []) (wr := [(md 0, .inr (4, [.int (gXt u_2), .int (nI (gMi u_2)), .int (nI (gMo u_2)), .int (nI (gMw u_2)), .ref (md 1), .ref (md 2), .ref (md 3), .int (nI (gNi u_2)), .int (nI (gNo u_2)), .ref (md 4), .ref (md 5), .ref (md 6), .int (nI (gNs u_2)), .ref (md 7), .ref (md 8), .int (nI (gNb u_2)), .int (nI (gWd u_2)), .ref (md 9), .long (gTp u_2), .long (gBl u_2), .long (gWt u_2), .long (gWb u_2)])), (md 1, aI g 48 (gLo u_2)), (md 2, aI g 48 (gHi u_2)), (md 3, aZ g 12 (gTr u_2)), (md 4, aI g 48 (gNu u_2)), (md 5, aZ g 12 (gAm u_2)), (md 6, aJ g 13000 (gSd u_2)), (md 7, aJ g 85 (gBd u_2)), (md 8, aJ g 5 (gWy u_2)), (md 9, aI g 5 (fun j => nI ((gCh u_2) j)))]) hP hD hS hA [] [0, 1, 2, 3, 4, 5, 6, 7, 8, 9] rfl rfl rfl rfl (by decide) (fun hPc hDc => rn_S (As := [.int (wh), .int (nI 0), .int (nI 1)]) (rest := []) ⟨hx, hb, hml, hown, hts⟩ ((c_X4_isIn l g wh (nI 0) (nI 1) ) _) (cw_X4_span_52_0_0 hts hN ⟨Nat.le_of_ble_eq_true rfl, Nat.le_of_ble_eq_true rfl⟩) hK hN hPc hDc rfl rfl hl.1 (Nat.le_of_ble_eq_true rfl) dX4_span_13 ⟨Nat.le_of_ble_eq_true rfl, Nat.le_of_ble_eq_true rfl⟩) ?_
    intro r_5 u_6 H locs h_7 hP hD hS
    have hP : va_P g.1 vwCl [(md 0, .inr (4, [.int (gXt u_2), .int (nI (gMi u_2)), .int (nI (gMo u_2)), .int (nI (gMw u_2)), .ref (md 1), .ref (md 2), .ref (md 3), .int (nI (gNi u_2)), .int (nI (gNo u_2)), .ref (md 4), .ref (md 5), .ref (md 6), .int (nI (gNs u_2)), .ref (md 7), .ref (md 8), .int (nI (gNb u_2)), .int (nI (gWd u_2)), .ref (md 9), .long (gTp u_2), .long (gBl u_2), .long (gWt u_2), .long (gWb u_2)])), (md 1, aI g 48 (gLo u_2)), (md 2, aI g 48 (gHi u_2)), (md 3, aZ g 12 (gTr u_2)), (md 4, aI g 48 (gNu u_2)), (md 5, aZ g 12 (gAm u_2)), (md 6, aJ g 13000 (gSd u_2)), (md 7, aJ g 85 (gBd u_2)), (md 8, aJ g 5 (gWy u_2)), (md 9, aI g 5 (fun j => nI ((gCh u_2) j)))] H := hP.sub [0, 1, 2, 3, 4, 5, 6, 7, 8, 9] rfl
    have hD : va_D A [(md 0, .inr (4, [.int (gXt u_2), .int (nI (gMi u_2)), .int (nI (gMo u_2)), .int (nI (gMw u_2)), .ref (md 1), .ref (md 2), .ref (md 3), .int (nI (gNi u_2)), .int (nI (gNo u_2)), .ref (md 4), .ref (md 5), .ref (md 6), .int (nI (gNs u_2)), .ref (md 7), .ref (md 8), .int (nI (gNb u_2)), .int (nI (gWd u_2)), .ref (md 9), .long (gTp u_2), .long (gBl u_2), .long (gWt u_2), .long (gWb u_2)])), (md 1, aI g 48 (gLo u_2)), (md 2, aI g 48 (gHi u_2)), (md 3, aZ g 12 (gTr u_2)), (md 4, aI g 48 (gNu u_2)), (md 5, aZ g 12 (gAm u_2)), (md 6, aJ g 13000 (gSd u_2)), (md 7, aJ g 85 (gBd u_2)), (md 8, aJ g 5 (gWy u_2)), (md 9, aI g 5 (fun j => nI ((gCh u_2) j)))] := hD.sub [0, 1, 2, 3, 4, 5, 6, 7, 8, 9] rfl rfl
    have h_7 : r_5 = bI (isI wh (nI 0) (nI 1)) := h_7
    subst h_7
    refine lv_if_eq (tgt := 27) hx hb dX4_span_16 (by decide) (fun c_8 => ?_) (fun c_8 => ?_)
    · skip
      have hfin : msnP x vw wk gr wh (-1) := Or.inr ⟨fun q => absurd (bI_eq0.mp c_8) (by rw [q.2.1]; decide), rfl⟩
      refine lv_ldc2 (v := -1) hx hb hown (hts _ (List.mem_of_getElem? (i := 1) rfl)) dX4_span_27 ?_
      exact ret dX4_span_30 ((gXt u_2, gMi u_2, gMo u_2, gMw u_2, gLo u_2, gHi u_2, gTr u_2, gNi u_2, gNo u_2, gNu u_2, gAm u_2, gSd u_2, gNs u_2, gBd u_2, gWy u_2, gNb u_2, gWd u_2, (gCh u_2), gTp u_2, gBl u_2, gWt u_2, gWb u_2)) (⟨hkp, hfin⟩) hP hD hS
    · skip
      have hwh := bI_ne0.mp c_8
      refine lv_aload_n hx hb dX4_span_19 rfl (lv_at hl 0 rfl) ?_
      refine go_i (wc := [(md 0, .inr (4, [.int (gXt u_2), .int (nI (gMi u_2)), .int (nI (gMo u_2)), .int (nI (gMw u_2)), .ref (md 1), .ref (md 2), .ref (md 3), .int (nI (gNi u_2)), .int (nI (gNo u_2)), .ref (md 4), .ref (md 5), .ref (md 6), .int (nI (gNs u_2)), .ref (md 7), .ref (md 8), .int (nI (gNb u_2)), .int (nI (gWd u_2)), .ref (md 9), .long (gTp u_2), .long (gBl u_2), .long (gWt u_2), .long (gWb u_2)])), (md 1, aI g 48 (gLo u_2)), (md 2, aI g 48 (gHi u_2)), (md 3, aZ g 12 (gTr u_2))]) (wr := [(md 4, aI g 48 (gNu u_2)), (md 5, aZ g 12 (gAm u_2)), (md 6, aJ g 13000 (gSd u_2)), (md 7, aJ g 85 (gBd u_2)), (md 8, aJ g 5 (gWy u_2)), (md 9, aI g 5 (fun j => nI ((gCh u_2) j)))]) hP hD hS hA [0, 1, 2, 3] [4, 5, 6, 7, 8, 9] rfl rfl rfl rfl (by decide) (fun hPc hDc => rn_V (As := []) (rest := []) ⟨hx, hb, hml, hown, hts⟩ ((c_X4_missingThere l g md (gXt u_2) (gMi u_2) (gMo u_2) (gMw u_2) (gNi u_2) (gNo u_2) (gNs u_2) (gNb u_2) (gWd u_2) (gTp u_2) (gBl u_2) (gWt u_2) (gWb u_2) (gLo u_2) (gHi u_2) (gTr u_2) (by omega) (by omega) (by omega)) _) (cw_X4_span_170_1_20 hts hN ⟨Nat.le_of_ble_eq_true rfl, Nat.le_of_ble_eq_true rfl⟩) hK hN hPc hDc 0 rfl rfl rfl rfl hl.1 (Nat.le_of_ble_eq_true rfl) dX4_span_20 ⟨Nat.le_of_ble_eq_true rfl, Nat.le_of_ble_eq_true rfl⟩) ?_
      intro r_9 u_10 H locs h_11 hP hD hS
      have hP : va_P g.1 vwCl [(md 0, .inr (4, [.int (gXt u_2), .int (nI (gMi u_2)), .int (nI (gMo u_2)), .int (nI (gMw u_2)), .ref (md 1), .ref (md 2), .ref (md 3), .int (nI (gNi u_2)), .int (nI (gNo u_2)), .ref (md 4), .ref (md 5), .ref (md 6), .int (nI (gNs u_2)), .ref (md 7), .ref (md 8), .int (nI (gNb u_2)), .int (nI (gWd u_2)), .ref (md 9), .long (gTp u_2), .long (gBl u_2), .long (gWt u_2), .long (gWb u_2)])), (md 1, aI g 48 (gLo u_2)), (md 2, aI g 48 (gHi u_2)), (md 3, aZ g 12 (gTr u_2)), (md 4, aI g 48 (gNu u_2)), (md 5, aZ g 12 (gAm u_2)), (md 6, aJ g 13000 (gSd u_2)), (md 7, aJ g 85 (gBd u_2)), (md 8, aJ g 5 (gWy u_2)), (md 9, aI g 5 (fun j => nI ((gCh u_2) j)))] H := hP.sub [6, 7, 8, 9, 0, 1, 2, 3, 4, 5] rfl
      have hD : va_D A [(md 0, .inr (4, [.int (gXt u_2), .int (nI (gMi u_2)), .int (nI (gMo u_2)), .int (nI (gMw u_2)), .ref (md 1), .ref (md 2), .ref (md 3), .int (nI (gNi u_2)), .int (nI (gNo u_2)), .ref (md 4), .ref (md 5), .ref (md 6), .int (nI (gNs u_2)), .ref (md 7), .ref (md 8), .int (nI (gNb u_2)), .int (nI (gWd u_2)), .ref (md 9), .long (gTp u_2), .long (gBl u_2), .long (gWt u_2), .long (gWb u_2)])), (md 1, aI g 48 (gLo u_2)), (md 2, aI g 48 (gHi u_2)), (md 3, aZ g 12 (gTr u_2)), (md 4, aI g 48 (gNu u_2)), (md 5, aZ g 12 (gAm u_2)), (md 6, aJ g 13000 (gSd u_2)), (md 7, aJ g 85 (gBd u_2)), (md 8, aJ g 5 (gWy u_2)), (md 9, aI g 5 (fun j => nI ((gCh u_2) j)))] := hD.sub [6, 7, 8, 9, 0, 1, 2, 3, 4, 5] rfl rfl
      have h_11 : r_9 = nI (msO (gLo u_2) (gHi u_2) (gTr u_2) ((gMi u_2) + (gMo u_2)) 0 (gMw u_2)) := h_11
      subst h_11
      refine k_ei (y := nI ms0) (by rw [hms0, hk1, hk2, hk3, hk4, hk5, hk6]) ?_
      refine lv_iconst (v := nI 4) hx hb dX4_span_23 (by decide) ?_
      refine lv_icmp_le (tgt := 31) hx hb dX4_span_24 (by decide) (fun c_12 => ?_) (fun c_12 => ?_)
      · skip
        have c_12 := (nI_leI (by omega) (by omega)).mp c_12
        have hsc : msnC x vw wk wh := ⟨hac, hwh, by rw [← hms0]; omega⟩
        obtain ⟨v, hvv, hv0, hv3, hv31⟩ := isI_get (by decide) (by decide) hac.1
        obtain ⟨w, hw, hw31, hww⟩ := inR_nI hac.2.1
        subst hvv
        subst hww
        have hwm : w < 12 := by omega
        refine lv_iconst (v := nI 0) hx hb dX4_span_31 (by decide) ?_
        refine lv_istore (lv' := [(5, .int (nI 0)), (0, .ref (md 0)), (1, .int (nI v)), (2, .int (nI w)), (3, .int (gr)), (4, .int (wh))]) hx hb dX4_span_32 hl (by decide) rfl (fun ls hl => ?_)
        have lp_34 : ∀ (n : Nat) (o : Nat) (f : Nat → Int32), gMw x - o < n → o ≤ gMw x → mspF x w gr = spM (gLo x) (gHi x) (gTr x) (gMi x) (gMi x + gMo x) w gr o (gMw x - o) f → ∀ (H : Heap) (locs : List Loc), va_P g.1 vwCl [(md 0, .inr (4, [.int (gXt u_2), .int (nI (gMi u_2)), .int (nI (gMo u_2)), .int (nI (gMw u_2)), .ref (md 1), .ref (md 2), .ref (md 3), .int (nI (gNi u_2)), .int (nI (gNo u_2)), .ref (md 4), .ref (md 5), .ref (md 6), .int (nI (gNs u_2)), .ref (md 7), .ref (md 8), .int (nI (gNb u_2)), .int (nI (gWd u_2)), .ref (md 9), .long (gTp u_2), .long (gBl u_2), .long (gWt u_2), .long (gWb u_2)])), (md 1, aI g 48 (gLo u_2)), (md 2, aI g 48 (gHi u_2)), (md 3, aZ g 12 (gTr u_2)), (md 4, aI g 48 f), (md 5, aZ g 12 (gAm u_2)), (md 6, aJ g 13000 (gSd u_2)), (md 7, aJ g 85 (gBd u_2)), (md 8, aJ g 5 (gWy u_2)), (md 9, aI g 5 (fun j => nI ((gCh u_2) j)))] H → va_D A [(md 0, .inr (4, [.int (gXt u_2), .int (nI (gMi u_2)), .int (nI (gMo u_2)), .int (nI (gMw u_2)), .ref (md 1), .ref (md 2), .ref (md 3), .int (nI (gNi u_2)), .int (nI (gNo u_2)), .ref (md 4), .ref (md 5), .ref (md 6), .int (nI (gNs u_2)), .ref (md 7), .ref (md 8), .int (nI (gNb u_2)), .int (nI (gWd u_2)), .ref (md 9), .long (gTp u_2), .long (gBl u_2), .long (gWt u_2), .long (gWb u_2)])), (md 1, aI g 48 (gLo u_2)), (md 2, aI g 48 (gHi u_2)), (md 3, aZ g 12 (gTr u_2)), (md 4, aI g 48 f), (md 5, aZ g 12 (gAm u_2)), (md 6, aJ g 13000 (gSd u_2)), (md 7, aJ g 85 (gBd u_2)), (md 8, aJ g 5 (gWy u_2)), (md 9, aI g 5 (fun j => nI ((gCh u_2) j)))] → va_S A s.heap H locs → ∀ ls : Array Slot, lv_has ls 10 [(0, .ref (md 0)), (1, .int (nI v)), (2, .int (nI w)), (3, .int (gr)), (4, .int (wh)), (5, .int (nI o))] → W p l e { frames := 13, cells := 0, slots := 0, locals := 327 } s m args below meth c H locs 0 0 Q (F0 m 34 ls []) := by
          intro n
          induction n with
          | zero =>
            intro o f hms
            omega
          | succ n ih_34 =>
            intro o f hms_34 ho hv H locs hP hD hS ls hl
            refine lv_iload hx hb dX4_span_34 (lv_at hl 5 rfl) ?_
            refine lv_aload_n hx hb dX4_span_36 rfl (lv_at hl 0 rfl) ?_
            refine k_get hx hb hts hown hK hP iw_X4_span_X4 rfl 0 3 fm_X4_span_49 (by decide) rfl rfl dX4_span_37 ?_
            refine lv_icmp_ge (tgt := 244) hx hb dX4_span_40 (by decide) (fun c_13 => ?_) (fun c_13 => ?_)
            · skip
              have c_13 := (nI_leI (by omega) (by omega)).mp c_13
              have hsome : mspF x w gr = some f := by rw [hv, show gMw x - o = 0 by omega]; rfl
              rcases (show v = 3 ∨ v ≤ 2 by omega) with rfl | hv2
              · skip
                refine lv_aload_n hx hb dX4_span_244 rfl (lv_at hl 0 rfl) ?_
                refine lv_iload_n hx hb dX4_span_245 rfl (lv_at hl 1 rfl) ?_
                refine lv_iload_n hx hb dX4_span_246 rfl (lv_at hl 2 rfl) ?_
                refine go_i (wc := [(md 0, .inr (4, [.int (gXt u_2), .int (nI (gMi u_2)), .int (nI (gMo u_2)), .int (nI (gMw u_2)), .ref (md 1), .ref (md 2), .ref (md 3), .int (nI (gNi u_2)), .int (nI (gNo u_2)), .ref (md 4), .ref (md 5), .ref (md 6), .int (nI (gNs u_2)), .ref (md 7), .ref (md 8), .int (nI (gNb u_2)), .int (nI (gWd u_2)), .ref (md 9), .long (gTp u_2), .long (gBl u_2), .long (gWt u_2), .long (gWb u_2)])), (md 4, aI g 48 f), (md 5, aZ g 12 (gAm u_2))]) (wr := [(md 1, aI g 48 (gLo u_2)), (md 2, aI g 48 (gHi u_2)), (md 3, aZ g 12 (gTr u_2)), (md 6, aJ g 13000 (gSd u_2)), (md 7, aJ g 85 (gBd u_2)), (md 8, aJ g 5 (gWy u_2)), (md 9, aI g 5 (fun j => nI ((gCh u_2) j)))]) hP hD hS hA [0, 4, 5] [1, 2, 3, 6, 7, 8, 9] rfl rfl rfl rfl (by decide) (fun hPc hDc => rn_V (As := [.int (nI 3), .int (nI w)]) (rest := []) ⟨hx, hb, hml, hown, hts⟩ ((c_X4_shares3 l g md (gXt u_2) (gMi u_2) (gMo u_2) (gMw u_2) (gNi u_2) (gNo u_2) (gNs u_2) (gNb u_2) (gWd u_2) (gTp u_2) (gBl u_2) (gWt u_2) (gWb u_2) f (gAm u_2) w (by omega) (by omega) (by omega) (by omega)) _) (cw_X4_span_157_2_50 hts hN ⟨Nat.le_of_ble_eq_true rfl, Nat.le_of_ble_eq_true rfl⟩) hK hN hPc hDc 0 rfl rfl rfl rfl hl.1 (Nat.le_of_ble_eq_true rfl) dX4_span_247 ⟨Nat.le_of_ble_eq_true rfl, Nat.le_of_ble_eq_true rfl⟩) ?_
                intro r_14 u_15 H locs h_16 hP hD hS
                have hP : va_P g.1 vwCl [(md 0, .inr (4, [.int (gXt u_2), .int (nI (gMi u_2)), .int (nI (gMo u_2)), .int (nI (gMw u_2)), .ref (md 1), .ref (md 2), .ref (md 3), .int (nI (gNi u_2)), .int (nI (gNo u_2)), .ref (md 4), .ref (md 5), .ref (md 6), .int (nI (gNs u_2)), .ref (md 7), .ref (md 8), .int (nI (gNb u_2)), .int (nI (gWd u_2)), .ref (md 9), .long (u_15.1), .long (u_15.2.1), .long (u_15.2.2.1), .long (u_15.2.2.2)])), (md 1, aI g 48 (gLo u_2)), (md 2, aI g 48 (gHi u_2)), (md 3, aZ g 12 (gTr u_2)), (md 4, aI g 48 f), (md 5, aZ g 12 (gAm u_2)), (md 6, aJ g 13000 (gSd u_2)), (md 7, aJ g 85 (gBd u_2)), (md 8, aJ g 5 (gWy u_2)), (md 9, aI g 5 (fun j => nI ((gCh u_2) j)))] H := hP.sub [7, 0, 1, 2, 8, 9, 3, 4, 5, 6] rfl
                have hD : va_D A [(md 0, .inr (4, [.int (gXt u_2), .int (nI (gMi u_2)), .int (nI (gMo u_2)), .int (nI (gMw u_2)), .ref (md 1), .ref (md 2), .ref (md 3), .int (nI (gNi u_2)), .int (nI (gNo u_2)), .ref (md 4), .ref (md 5), .ref (md 6), .int (nI (gNs u_2)), .ref (md 7), .ref (md 8), .int (nI (gNb u_2)), .int (nI (gWd u_2)), .ref (md 9), .long (u_15.1), .long (u_15.2.1), .long (u_15.2.2.1), .long (u_15.2.2.2)])), (md 1, aI g 48 (gLo u_2)), (md 2, aI g 48 (gHi u_2)), (md 3, aZ g 12 (gTr u_2)), (md 4, aI g 48 f), (md 5, aZ g 12 (gAm u_2)), (md 6, aJ g 13000 (gSd u_2)), (md 7, aJ g 85 (gBd u_2)), (md 8, aJ g 5 (gWy u_2)), (md 9, aI g 5 (fun j => nI ((gCh u_2) j)))] := hD.sub [7, 0, 1, 2, 8, 9, 3, 4, 5, 6] rfl rfl
                have h_16 : shW f (gAm u_2) (gNi u_2) (gNo u_2) (gMw u_2) w (gTp u_2) (gBl u_2) (gWt u_2) (gWb u_2) r_14 u_15.1 u_15.2.1 := h_16
                have hsh := h_16
                rw [hp1, hp2, hp4, hk3] at hsh
                refine lv_istore (lv' := [(5, .int (r_14)), (0, .ref (md 0)), (1, .int (nI 3)), (2, .int (nI w)), (3, .int (gr)), (4, .int (wh))]) hx hb dX4_span_250 hl (by decide) rfl (fun ls hl => ?_)
                refine lv_aload_n hx hb dX4_span_252 rfl (lv_at hl 1 rfl) ?_
                refine lv_iload hx hb dX4_span_253 (lv_at hl 5 rfl) ?_
                have hms : mSh f (plA x) (gMi x) (gMo x) (gMw x) 3 w _ _ _ := Or.inl ⟨rfl, _, _, _, _, hsh⟩
                refine go_l (wc := [(md 0, .inr (4, [.int (gXt u_2), .int (nI (gMi u_2)), .int (nI (gMo u_2)), .int (nI (gMw u_2)), .ref (md 1), .ref (md 2), .ref (md 3), .int (nI (gNi u_2)), .int (nI (gNo u_2)), .ref (md 4), .ref (md 5), .ref (md 6), .int (nI (gNs u_2)), .ref (md 7), .ref (md 8), .int (nI (gNb u_2)), .int (nI (gWd u_2)), .ref (md 9), .long (u_15.1), .long (u_15.2.1), .long (u_15.2.2.1), .long (u_15.2.2.2)]))]) (wr := [(md 1, aI g 48 (gLo u_2)), (md 2, aI g 48 (gHi u_2)), (md 3, aZ g 12 (gTr u_2)), (md 4, aI g 48 f), (md 5, aZ g 12 (gAm u_2)), (md 6, aJ g 13000 (gSd u_2)), (md 7, aJ g 85 (gBd u_2)), (md 8, aJ g 5 (gWy u_2)), (md 9, aI g 5 (fun j => nI ((gCh u_2) j)))]) hP hD hS hA [0] [1, 2, 3, 4, 5, 6, 7, 8, 9] rfl rfl rfl rfl (by decide) (fun hPc hDc => rn_V (As := [.int (wh)]) (rest := []) ⟨hx, hb, hml, hown, hts⟩ ((c_X4_part l g md (gXt u_2) (gMi u_2) (gMo u_2) (gMw u_2) (gNi u_2) (gNo u_2) (gNs u_2) (gNb u_2) (gWd u_2) u_15.1 u_15.2.1 u_15.2.2.1 u_15.2.2.2 wh (cmD_nz (mSh_nz hw (by rw [plA_at hw]; have := hac.2.2.1; rw [wN_n hw31] at this; exact this) hms))) _) (cw_X4_span_160_2_69 hts hN ⟨Nat.le_of_ble_eq_true rfl, Nat.le_of_ble_eq_true rfl⟩) hK hN hPc hDc 0 rfl rfl rfl rfl hl.1 (Nat.le_of_ble_eq_true rfl) dX4_span_255 ⟨Nat.le_of_ble_eq_true rfl, Nat.le_of_ble_eq_true rfl⟩) ?_
                intro r_17 u_18 H locs h_19 hP hD hS
                have hP : va_P g.1 vwCl [(md 0, .inr (4, [.int (gXt u_2), .int (nI (gMi u_2)), .int (nI (gMo u_2)), .int (nI (gMw u_2)), .ref (md 1), .ref (md 2), .ref (md 3), .int (nI (gNi u_2)), .int (nI (gNo u_2)), .ref (md 4), .ref (md 5), .ref (md 6), .int (nI (gNs u_2)), .ref (md 7), .ref (md 8), .int (nI (gNb u_2)), .int (nI (gWd u_2)), .ref (md 9), .long (u_15.1), .long (u_15.2.1), .long (u_15.2.2.1), .long (u_15.2.2.2)])), (md 1, aI g 48 (gLo u_2)), (md 2, aI g 48 (gHi u_2)), (md 3, aZ g 12 (gTr u_2)), (md 4, aI g 48 f), (md 5, aZ g 12 (gAm u_2)), (md 6, aJ g 13000 (gSd u_2)), (md 7, aJ g 85 (gBd u_2)), (md 8, aJ g 5 (gWy u_2)), (md 9, aI g 5 (fun j => nI ((gCh u_2) j)))] H := hP.sub [9, 0, 1, 2, 3, 4, 5, 6, 7, 8] rfl
                have hD : va_D A [(md 0, .inr (4, [.int (gXt u_2), .int (nI (gMi u_2)), .int (nI (gMo u_2)), .int (nI (gMw u_2)), .ref (md 1), .ref (md 2), .ref (md 3), .int (nI (gNi u_2)), .int (nI (gNo u_2)), .ref (md 4), .ref (md 5), .ref (md 6), .int (nI (gNs u_2)), .ref (md 7), .ref (md 8), .int (nI (gNb u_2)), .int (nI (gWd u_2)), .ref (md 9), .long (u_15.1), .long (u_15.2.1), .long (u_15.2.2.1), .long (u_15.2.2.2)])), (md 1, aI g 48 (gLo u_2)), (md 2, aI g 48 (gHi u_2)), (md 3, aZ g 12 (gTr u_2)), (md 4, aI g 48 f), (md 5, aZ g 12 (gAm u_2)), (md 6, aJ g 13000 (gSd u_2)), (md 7, aJ g 85 (gBd u_2)), (md 8, aJ g 5 (gWy u_2)), (md 9, aI g 5 (fun j => nI ((gCh u_2) j)))] := hD.sub [9, 0, 1, 2, 3, 4, 5, 6, 7, 8] rfl rfl
                have h_19 : r_17 = ptM u_15.1 u_15.2.1 wh := h_19
                subst h_19
                exact ret dX4_span_258 ((gXt u_2, gMi u_2, gMo u_2, gMw u_2, gLo u_2, gHi u_2, gTr u_2, gNi u_2, gNo u_2, f, gAm u_2, gSd u_2, gNs u_2, gBd u_2, gWy u_2, gNb u_2, gWd u_2, (gCh u_2), u_15.1, u_15.2.1, u_15.2.2.1, u_15.2.2.2)) (⟨hkp, Or.inl ⟨hsc, Or.inr ⟨_, by rw [wN_n hw31]; exact hsome, _, _, _, by rw [wN_n hw31, wN_n (by decide)]; exact hms, rfl⟩⟩⟩) hP hD hS
              · skip
                refine lv_aload_n hx hb dX4_span_244 rfl (lv_at hl 0 rfl) ?_
                refine lv_iload_n hx hb dX4_span_245 rfl (lv_at hl 1 rfl) ?_
                refine lv_iload_n hx hb dX4_span_246 rfl (lv_at hl 2 rfl) ?_
                refine go_i (wc := [(md 0, .inr (4, [.int (gXt u_2), .int (nI (gMi u_2)), .int (nI (gMo u_2)), .int (nI (gMw u_2)), .ref (md 1), .ref (md 2), .ref (md 3), .int (nI (gNi u_2)), .int (nI (gNo u_2)), .ref (md 4), .ref (md 5), .ref (md 6), .int (nI (gNs u_2)), .ref (md 7), .ref (md 8), .int (nI (gNb u_2)), .int (nI (gWd u_2)), .ref (md 9), .long (gTp u_2), .long (gBl u_2), .long (gWt u_2), .long (gWb u_2)])), (md 4, aI g 48 f), (md 5, aZ g 12 (gAm u_2)), (md 7, aJ g 85 (gBd u_2)), (md 9, aI g 5 (fun j => nI ((gCh u_2) j))), (md 8, aJ g 5 (gWy u_2)), (md 6, aJ g 13000 (gSd u_2))]) (wr := [(md 1, aI g 48 (gLo u_2)), (md 2, aI g 48 (gHi u_2)), (md 3, aZ g 12 (gTr u_2))]) hP hD hS hA [0, 4, 5, 7, 9, 8, 6] [1, 2, 3] rfl rfl rfl rfl (by decide) (fun hPc hDc => rn_V (As := [.int (nI v), .int (nI w)]) (rest := []) ⟨hx, hb, hml, hown, hts⟩ ((c_X4_shares l g md (gXt u_2) (gMi u_2) (gMo u_2) (gMw u_2) (gNi u_2) (gNo u_2) (gNs u_2) (gNb u_2) (gWd u_2) (gTp u_2) (gBl u_2) (gWt u_2) (gWb u_2) f (gAm u_2) (gBd u_2) (gCh u_2) (gWy u_2) (gSd u_2) v w (by omega) (by omega) (by omega) (by omega) (by omega) (by omega) (by omega)) _) (cw_X4_span_157_12_299 hts hN ⟨Nat.le_of_ble_eq_true rfl, Nat.le_of_ble_eq_true rfl⟩) hK hN hPc hDc 0 rfl rfl rfl rfl hl.1 (Nat.le_of_ble_eq_true rfl) dX4_span_247 ⟨Nat.le_of_ble_eq_true rfl, Nat.le_of_ble_eq_true rfl⟩) ?_
                intro r_20 u_21 H locs h_22 hP hD hS
                have hP : va_P g.1 vwCl [(md 0, .inr (4, [.int (gXt u_2), .int (nI (gMi u_2)), .int (nI (gMo u_2)), .int (nI (gMw u_2)), .ref (md 1), .ref (md 2), .ref (md 3), .int (nI (gNi u_2)), .int (nI (gNo u_2)), .ref (md 4), .ref (md 5), .ref (md 6), .int (nI u_21.1), .ref (md 7), .ref (md 8), .int (nI u_21.2.1), .int (nI u_21.2.2.1), .ref (md 9), .long (u_21.2.2.2.2.2.2.2.1), .long (u_21.2.2.2.2.2.2.2.2), .long (gWt u_2), .long (gWb u_2)])), (md 1, aI g 48 (gLo u_2)), (md 2, aI g 48 (gHi u_2)), (md 3, aZ g 12 (gTr u_2)), (md 4, aI g 48 f), (md 5, aZ g 12 (gAm u_2)), (md 6, aJ g 13000 u_21.2.2.2.2.2.2.1), (md 7, aJ g 85 u_21.2.2.2.1), (md 8, aJ g 5 u_21.2.2.2.2.2.1), (md 9, aI g 5 (fun j => nI (u_21.2.2.2.2.1 j)))] H := hP.sub [3, 0, 1, 2, 4, 5, 9, 6, 8, 7] rfl
                have hD : va_D A [(md 0, .inr (4, [.int (gXt u_2), .int (nI (gMi u_2)), .int (nI (gMo u_2)), .int (nI (gMw u_2)), .ref (md 1), .ref (md 2), .ref (md 3), .int (nI (gNi u_2)), .int (nI (gNo u_2)), .ref (md 4), .ref (md 5), .ref (md 6), .int (nI u_21.1), .ref (md 7), .ref (md 8), .int (nI u_21.2.1), .int (nI u_21.2.2.1), .ref (md 9), .long (u_21.2.2.2.2.2.2.2.1), .long (u_21.2.2.2.2.2.2.2.2), .long (gWt u_2), .long (gWb u_2)])), (md 1, aI g 48 (gLo u_2)), (md 2, aI g 48 (gHi u_2)), (md 3, aZ g 12 (gTr u_2)), (md 4, aI g 48 f), (md 5, aZ g 12 (gAm u_2)), (md 6, aJ g 13000 u_21.2.2.2.2.2.2.1), (md 7, aJ g 85 u_21.2.2.2.1), (md 8, aJ g 5 u_21.2.2.2.2.2.1), (md 9, aI g 5 (fun j => nI (u_21.2.2.2.2.1 j)))] := hD.sub [3, 0, 1, 2, 4, 5, 9, 6, 8, 7] rfl rfl
                have h_22 : shQ f (gAm u_2) (gNi u_2) (gNo u_2) (gMw u_2) v w (gTp u_2) (gBl u_2) r_20 u_21.1 u_21.2.2.2.2.2.2.1 u_21.2.2.2.2.2.2.2.1 u_21.2.2.2.2.2.2.2.2 := h_22
                have hsh := h_22
                rw [hp1, hp2, hp4, hk3] at hsh
                refine lv_istore (lv' := [(5, .int (r_20)), (0, .ref (md 0)), (1, .int (nI v)), (2, .int (nI w)), (3, .int (gr)), (4, .int (wh))]) hx hb dX4_span_250 hl (by decide) rfl (fun ls hl => ?_)
                refine lv_aload_n hx hb dX4_span_252 rfl (lv_at hl 1 rfl) ?_
                refine lv_iload hx hb dX4_span_253 (lv_at hl 5 rfl) ?_
                have hms : mSh f (plA x) (gMi x) (gMo x) (gMw x) v w _ _ _ := Or.inr ⟨hv2, _, _, _, _, hsh⟩
                refine go_l (wc := [(md 0, .inr (4, [.int (gXt u_2), .int (nI (gMi u_2)), .int (nI (gMo u_2)), .int (nI (gMw u_2)), .ref (md 1), .ref (md 2), .ref (md 3), .int (nI (gNi u_2)), .int (nI (gNo u_2)), .ref (md 4), .ref (md 5), .ref (md 6), .int (nI u_21.1), .ref (md 7), .ref (md 8), .int (nI u_21.2.1), .int (nI u_21.2.2.1), .ref (md 9), .long (u_21.2.2.2.2.2.2.2.1), .long (u_21.2.2.2.2.2.2.2.2), .long (gWt u_2), .long (gWb u_2)]))]) (wr := [(md 1, aI g 48 (gLo u_2)), (md 2, aI g 48 (gHi u_2)), (md 3, aZ g 12 (gTr u_2)), (md 4, aI g 48 f), (md 5, aZ g 12 (gAm u_2)), (md 6, aJ g 13000 u_21.2.2.2.2.2.2.1), (md 7, aJ g 85 u_21.2.2.2.1), (md 8, aJ g 5 u_21.2.2.2.2.2.1), (md 9, aI g 5 (fun j => nI (u_21.2.2.2.2.1 j)))]) hP hD hS hA [0] [1, 2, 3, 4, 5, 6, 7, 8, 9] rfl rfl rfl rfl (by decide) (fun hPc hDc => rn_V (As := [.int (wh)]) (rest := []) ⟨hx, hb, hml, hown, hts⟩ ((c_X4_part l g md (gXt u_2) (gMi u_2) (gMo u_2) (gMw u_2) (gNi u_2) (gNo u_2) u_21.1 u_21.2.1 u_21.2.2.1 u_21.2.2.2.2.2.2.2.1 u_21.2.2.2.2.2.2.2.2 (gWt u_2) (gWb u_2) wh (cmD_nz (mSh_nz hw (by rw [plA_at hw]; have := hac.2.2.1; rw [wN_n hw31] at this; exact this) hms))) _) (cw_X4_span_160_2_69 hts hN ⟨Nat.le_of_ble_eq_true rfl, Nat.le_of_ble_eq_true rfl⟩) hK hN hPc hDc 0 rfl rfl rfl rfl hl.1 (Nat.le_of_ble_eq_true rfl) dX4_span_255 ⟨Nat.le_of_ble_eq_true rfl, Nat.le_of_ble_eq_true rfl⟩) ?_
                intro r_23 u_24 H locs h_25 hP hD hS
                have hP : va_P g.1 vwCl [(md 0, .inr (4, [.int (gXt u_2), .int (nI (gMi u_2)), .int (nI (gMo u_2)), .int (nI (gMw u_2)), .ref (md 1), .ref (md 2), .ref (md 3), .int (nI (gNi u_2)), .int (nI (gNo u_2)), .ref (md 4), .ref (md 5), .ref (md 6), .int (nI u_21.1), .ref (md 7), .ref (md 8), .int (nI u_21.2.1), .int (nI u_21.2.2.1), .ref (md 9), .long (u_21.2.2.2.2.2.2.2.1), .long (u_21.2.2.2.2.2.2.2.2), .long (gWt u_2), .long (gWb u_2)])), (md 1, aI g 48 (gLo u_2)), (md 2, aI g 48 (gHi u_2)), (md 3, aZ g 12 (gTr u_2)), (md 4, aI g 48 f), (md 5, aZ g 12 (gAm u_2)), (md 6, aJ g 13000 u_21.2.2.2.2.2.2.1), (md 7, aJ g 85 u_21.2.2.2.1), (md 8, aJ g 5 u_21.2.2.2.2.2.1), (md 9, aI g 5 (fun j => nI (u_21.2.2.2.2.1 j)))] H := hP.sub [9, 0, 1, 2, 3, 4, 5, 6, 7, 8] rfl
                have hD : va_D A [(md 0, .inr (4, [.int (gXt u_2), .int (nI (gMi u_2)), .int (nI (gMo u_2)), .int (nI (gMw u_2)), .ref (md 1), .ref (md 2), .ref (md 3), .int (nI (gNi u_2)), .int (nI (gNo u_2)), .ref (md 4), .ref (md 5), .ref (md 6), .int (nI u_21.1), .ref (md 7), .ref (md 8), .int (nI u_21.2.1), .int (nI u_21.2.2.1), .ref (md 9), .long (u_21.2.2.2.2.2.2.2.1), .long (u_21.2.2.2.2.2.2.2.2), .long (gWt u_2), .long (gWb u_2)])), (md 1, aI g 48 (gLo u_2)), (md 2, aI g 48 (gHi u_2)), (md 3, aZ g 12 (gTr u_2)), (md 4, aI g 48 f), (md 5, aZ g 12 (gAm u_2)), (md 6, aJ g 13000 u_21.2.2.2.2.2.2.1), (md 7, aJ g 85 u_21.2.2.2.1), (md 8, aJ g 5 u_21.2.2.2.2.2.1), (md 9, aI g 5 (fun j => nI (u_21.2.2.2.2.1 j)))] := hD.sub [9, 0, 1, 2, 3, 4, 5, 6, 7, 8] rfl rfl
                have h_25 : r_23 = ptM u_21.2.2.2.2.2.2.2.1 u_21.2.2.2.2.2.2.2.2 wh := h_25
                subst h_25
                exact ret dX4_span_258 ((gXt u_2, gMi u_2, gMo u_2, gMw u_2, gLo u_2, gHi u_2, gTr u_2, gNi u_2, gNo u_2, f, gAm u_2, u_21.2.2.2.2.2.2.1, u_21.1, u_21.2.2.2.1, u_21.2.2.2.2.2.1, u_21.2.1, u_21.2.2.1, u_21.2.2.2.2.1, u_21.2.2.2.2.2.2.2.1, u_21.2.2.2.2.2.2.2.2, gWt u_2, gWb u_2)) (⟨hkp, Or.inl ⟨hsc, Or.inr ⟨_, by rw [wN_n hw31]; exact hsome, _, _, _, by rw [wN_n hw31, wN_n hv31]; exact hms, rfl⟩⟩⟩) hP hD hS
            · skip
              have c_13 := mt (nI_leI (by omega) (by omega)).mpr c_13
              refine lv_aload_n hx hb dX4_span_43 rfl (lv_at hl 0 rfl) ?_
              refine k_get hx hb hts hown hK hP iw_X4_span_X4 rfl 0 6 fm_X4_span_23 (by decide) rfl rfl dX4_span_44 ?_
              refine lv_iload hx hb dX4_span_47 (lv_at hl 5 rfl) ?_
              refine k_zald hx hb hK hP 3 rfl (by omega) (by omega) dX4_span_49 ?_
              refine lv_if_ne (tgt := 56) hx hb dX4_span_50 (by decide) (fun c_26 => ?_) (fun c_26 => ?_)
              · skip
                have hto : ¬ gTr x o = 0 := by rw [← hk6]; exact c_26
                refine lv_iconst (v := nI 0) hx hb dX4_span_56 (by decide) ?_
                refine lv_istore (lv' := [(6, .int (nI 0)), (0, .ref (md 0)), (1, .int (nI v)), (2, .int (nI w)), (3, .int (gr)), (4, .int (wh)), (5, .int (nI o))]) hx hb dX4_span_57 hl (by decide) rfl (fun ls hl => ?_)
                refine lv_iconst (v := nI 0) hx hb dX4_span_59 (by decide) ?_
                refine lv_istore (lv' := [(7, .int (nI 0)), (6, .int (nI 0)), (0, .ref (md 0)), (1, .int (nI v)), (2, .int (nI w)), (3, .int (gr)), (4, .int (wh)), (5, .int (nI o))]) hx hb dX4_span_60 hl (by decide) rfl (fun ls hl => ?_)
                refine lv_iconst (v := nI 0) hx hb dX4_span_62 (by decide) ?_
                refine lv_istore (lv' := [(8, .int (nI 0)), (7, .int (nI 0)), (6, .int (nI 0)), (0, .ref (md 0)), (1, .int (nI v)), (2, .int (nI w)), (3, .int (gr)), (4, .int (wh)), (5, .int (nI o))]) hx hb dX4_span_63 hl (by decide) rfl (fun ls hl => ?_)
                have lp_65 : ∀ (n : Nat) (si : Int32) (so : Int32) (k : Nat), gMi x + gMo x - k < n → k ≤ 4 → lwS (gLo x) (gMi x) o 0 (gMi x + gMo x) (0, 0) = lwS (gLo x) (gMi x) o k ((gMi x + gMo x) - k) (si, so) → ∀ (H : Heap) (locs : List Loc), va_P g.1 vwCl [(md 0, .inr (4, [.int (gXt u_2), .int (nI (gMi u_2)), .int (nI (gMo u_2)), .int (nI (gMw u_2)), .ref (md 1), .ref (md 2), .ref (md 3), .int (nI (gNi u_2)), .int (nI (gNo u_2)), .ref (md 4), .ref (md 5), .ref (md 6), .int (nI (gNs u_2)), .ref (md 7), .ref (md 8), .int (nI (gNb u_2)), .int (nI (gWd u_2)), .ref (md 9), .long (gTp u_2), .long (gBl u_2), .long (gWt u_2), .long (gWb u_2)])), (md 1, aI g 48 (gLo u_2)), (md 2, aI g 48 (gHi u_2)), (md 3, aZ g 12 (gTr u_2)), (md 4, aI g 48 f), (md 5, aZ g 12 (gAm u_2)), (md 6, aJ g 13000 (gSd u_2)), (md 7, aJ g 85 (gBd u_2)), (md 8, aJ g 5 (gWy u_2)), (md 9, aI g 5 (fun j => nI ((gCh u_2) j)))] H → va_D A [(md 0, .inr (4, [.int (gXt u_2), .int (nI (gMi u_2)), .int (nI (gMo u_2)), .int (nI (gMw u_2)), .ref (md 1), .ref (md 2), .ref (md 3), .int (nI (gNi u_2)), .int (nI (gNo u_2)), .ref (md 4), .ref (md 5), .ref (md 6), .int (nI (gNs u_2)), .ref (md 7), .ref (md 8), .int (nI (gNb u_2)), .int (nI (gWd u_2)), .ref (md 9), .long (gTp u_2), .long (gBl u_2), .long (gWt u_2), .long (gWb u_2)])), (md 1, aI g 48 (gLo u_2)), (md 2, aI g 48 (gHi u_2)), (md 3, aZ g 12 (gTr u_2)), (md 4, aI g 48 f), (md 5, aZ g 12 (gAm u_2)), (md 6, aJ g 13000 (gSd u_2)), (md 7, aJ g 85 (gBd u_2)), (md 8, aJ g 5 (gWy u_2)), (md 9, aI g 5 (fun j => nI ((gCh u_2) j)))] → va_S A s.heap H locs → ∀ ls : Array Slot, lv_has ls 10 [(0, .ref (md 0)), (1, .int (nI v)), (2, .int (nI w)), (3, .int (gr)), (4, .int (wh)), (5, .int (nI o)), (6, .int (si)), (7, .int (so)), (8, .int (nI k))] → W p l e { frames := 13, cells := 0, slots := 0, locals := 327 } s m args below meth c H locs 0 0 Q (F0 m 65 ls []) := by
                  intro n
                  induction n with
                  | zero =>
                    intro si so k hms
                    omega
                  | succ n ih_65 =>
                    intro si so k hms_65 hk hq H locs hP hD hS ls hl
                    refine lv_iload hx hb dX4_span_65 (lv_at hl 8 rfl) ?_
                    refine lv_aload_n hx hb dX4_span_67 rfl (lv_at hl 0 rfl) ?_
                    refine go_i (wc := [(md 0, .inr (4, [.int (gXt u_2), .int (nI (gMi u_2)), .int (nI (gMo u_2)), .int (nI (gMw u_2)), .ref (md 1), .ref (md 2), .ref (md 3), .int (nI (gNi u_2)), .int (nI (gNo u_2)), .ref (md 4), .ref (md 5), .ref (md 6), .int (nI (gNs u_2)), .ref (md 7), .ref (md 8), .int (nI (gNb u_2)), .int (nI (gWd u_2)), .ref (md 9), .long (gTp u_2), .long (gBl u_2), .long (gWt u_2), .long (gWb u_2)]))]) (wr := [(md 1, aI g 48 (gLo u_2)), (md 2, aI g 48 (gHi u_2)), (md 3, aZ g 12 (gTr u_2)), (md 4, aI g 48 f), (md 5, aZ g 12 (gAm u_2)), (md 6, aJ g 13000 (gSd u_2)), (md 7, aJ g 85 (gBd u_2)), (md 8, aJ g 5 (gWy u_2)), (md 9, aI g 5 (fun j => nI ((gCh u_2) j)))]) hP hD hS hA [0] [1, 2, 3, 4, 5, 6, 7, 8, 9] rfl rfl rfl rfl (by decide) (fun hPc hDc => rn_V (As := []) (rest := [.int (nI k)]) ⟨hx, hb, hml, hown, hts⟩ ((c_X4_things l g md (gXt u_2) (gMi u_2) (gMo u_2) (gMw u_2) (gNi u_2) (gNo u_2) (gNs u_2) (gNb u_2) (gWd u_2) (gTp u_2) (gBl u_2) (gWt u_2) (gWb u_2) ) _) (cw_X4_span_56_0_0 hts hN ⟨Nat.le_of_ble_eq_true rfl, Nat.le_of_ble_eq_true rfl⟩) hK hN hPc hDc 0 rfl rfl rfl rfl hl.1 (Nat.le_of_ble_eq_true rfl) dX4_span_68 ⟨Nat.le_of_ble_eq_true rfl, Nat.le_of_ble_eq_true rfl⟩) ?_
                    intro r_27 u_28 H locs h_29 hP hD hS
                    have hP : va_P g.1 vwCl [(md 0, .inr (4, [.int (gXt u_2), .int (nI (gMi u_2)), .int (nI (gMo u_2)), .int (nI (gMw u_2)), .ref (md 1), .ref (md 2), .ref (md 3), .int (nI (gNi u_2)), .int (nI (gNo u_2)), .ref (md 4), .ref (md 5), .ref (md 6), .int (nI (gNs u_2)), .ref (md 7), .ref (md 8), .int (nI (gNb u_2)), .int (nI (gWd u_2)), .ref (md 9), .long (gTp u_2), .long (gBl u_2), .long (gWt u_2), .long (gWb u_2)])), (md 1, aI g 48 (gLo u_2)), (md 2, aI g 48 (gHi u_2)), (md 3, aZ g 12 (gTr u_2)), (md 4, aI g 48 f), (md 5, aZ g 12 (gAm u_2)), (md 6, aJ g 13000 (gSd u_2)), (md 7, aJ g 85 (gBd u_2)), (md 8, aJ g 5 (gWy u_2)), (md 9, aI g 5 (fun j => nI ((gCh u_2) j)))] H := hP.sub [9, 0, 1, 2, 3, 4, 5, 6, 7, 8] rfl
                    have hD : va_D A [(md 0, .inr (4, [.int (gXt u_2), .int (nI (gMi u_2)), .int (nI (gMo u_2)), .int (nI (gMw u_2)), .ref (md 1), .ref (md 2), .ref (md 3), .int (nI (gNi u_2)), .int (nI (gNo u_2)), .ref (md 4), .ref (md 5), .ref (md 6), .int (nI (gNs u_2)), .ref (md 7), .ref (md 8), .int (nI (gNb u_2)), .int (nI (gWd u_2)), .ref (md 9), .long (gTp u_2), .long (gBl u_2), .long (gWt u_2), .long (gWb u_2)])), (md 1, aI g 48 (gLo u_2)), (md 2, aI g 48 (gHi u_2)), (md 3, aZ g 12 (gTr u_2)), (md 4, aI g 48 f), (md 5, aZ g 12 (gAm u_2)), (md 6, aJ g 13000 (gSd u_2)), (md 7, aJ g 85 (gBd u_2)), (md 8, aJ g 5 (gWy u_2)), (md 9, aI g 5 (fun j => nI ((gCh u_2) j)))] := hD.sub [9, 0, 1, 2, 3, 4, 5, 6, 7, 8] rfl rfl
                    have h_29 : r_27 = nI ((gMi u_2) + (gMo u_2)) := h_29
                    subst h_29
                    refine lv_icmp_ge (tgt := 126) hx hb dX4_span_71 (by decide) (fun c_30 => ?_) (fun c_30 => ?_)
                    · skip
                      have c_30 := (nI_leI (by omega) (by omega)).mp c_30
                      have hqf : lwS (gLo x) (gMi x) o 0 (gMi x + gMo x) (0, 0) = (si, so) := by rw [hq, show (gMi x + gMo x) - k = 0 by omega]; rfl
                      refine lv_iload hx hb dX4_span_126 (lv_at hl 6 rfl) ?_
                      refine lv_if_eq (tgt := 136) hx hb dX4_span_128 (by decide) (fun c_31 => ?_) (fun c_31 => ?_)
                      · skip
                        have hfin : msnP x (nI v) (nI w) gr wh (-1) := Or.inl ⟨hsc, Or.inl ⟨by rw [wN_n hw31, hv, show gMw x - o = (gMw x - (o + 1)) + 1 by omega, spM, if_neg hto, if_pos (by rw [hqf]; exact Or.inl c_31)], rfl⟩⟩
                        refine lv_ldc2 (v := -1) hx hb hown (hts _ (List.mem_of_getElem? (i := 1) rfl)) dX4_span_136 ?_
                        exact ret dX4_span_139 ((gXt u_2, gMi u_2, gMo u_2, gMw u_2, gLo u_2, gHi u_2, gTr u_2, gNi u_2, gNo u_2, f, gAm u_2, gSd u_2, gNs u_2, gBd u_2, gWy u_2, gNb u_2, gWd u_2, (gCh u_2), gTp u_2, gBl u_2, gWt u_2, gWb u_2)) (⟨hkp, hfin⟩) hP hD hS
                      · skip
                        have hs1 := c_31
                        refine lv_iload hx hb dX4_span_131 (lv_at hl 7 rfl) ?_
                        refine lv_if_ne (tgt := 140) hx hb dX4_span_133 (by decide) (fun c_32 => ?_) (fun c_32 => ?_)
                        · skip
                          have hsn : ¬ ((lwS (gLo x) (gMi x) o 0 (gMi x + gMo x) (0, 0)).1 = 0 ∨ (lwS (gLo x) (gMi x) o 0 (gMi x + gMo x) (0, 0)).2 = 0) := by rw [hqf]; exact fun z => z.elim hs1 c_32
                          refine lv_iload hx hb dX4_span_140 (lv_at hl 5 rfl) ?_
                          refine lv_iload_n hx hb dX4_span_142 rfl (lv_at hl 2 rfl) ?_
                          have lp_151 : ∀ (H : Heap) (locs : List Loc), va_P g.1 vwCl [(md 0, .inr (4, [.int (gXt u_2), .int (nI (gMi u_2)), .int (nI (gMo u_2)), .int (nI (gMw u_2)), .ref (md 1), .ref (md 2), .ref (md 3), .int (nI (gNi u_2)), .int (nI (gNo u_2)), .ref (md 4), .ref (md 5), .ref (md 6), .int (nI (gNs u_2)), .ref (md 7), .ref (md 8), .int (nI (gNb u_2)), .int (nI (gWd u_2)), .ref (md 9), .long (gTp u_2), .long (gBl u_2), .long (gWt u_2), .long (gWb u_2)])), (md 1, aI g 48 (gLo u_2)), (md 2, aI g 48 (gHi u_2)), (md 3, aZ g 12 (gTr u_2)), (md 4, aI g 48 f), (md 5, aZ g 12 (gAm u_2)), (md 6, aJ g 13000 (gSd u_2)), (md 7, aJ g 85 (gBd u_2)), (md 8, aJ g 5 (gWy u_2)), (md 9, aI g 5 (fun j => nI ((gCh u_2) j)))] H → va_D A [(md 0, .inr (4, [.int (gXt u_2), .int (nI (gMi u_2)), .int (nI (gMo u_2)), .int (nI (gMw u_2)), .ref (md 1), .ref (md 2), .ref (md 3), .int (nI (gNi u_2)), .int (nI (gNo u_2)), .ref (md 4), .ref (md 5), .ref (md 6), .int (nI (gNs u_2)), .ref (md 7), .ref (md 8), .int (nI (gNb u_2)), .int (nI (gWd u_2)), .ref (md 9), .long (gTp u_2), .long (gBl u_2), .long (gWt u_2), .long (gWb u_2)])), (md 1, aI g 48 (gLo u_2)), (md 2, aI g 48 (gHi u_2)), (md 3, aZ g 12 (gTr u_2)), (md 4, aI g 48 f), (md 5, aZ g 12 (gAm u_2)), (md 6, aJ g 13000 (gSd u_2)), (md 7, aJ g 85 (gBd u_2)), (md 8, aJ g 5 (gWy u_2)), (md 9, aI g 5 (fun j => nI ((gCh u_2) j)))] → va_S A s.heap H locs → ∀ ls : Array Slot, lv_has ls 10 [(0, .ref (md 0)), (1, .int (nI v)), (2, .int (nI w)), (3, .int (gr)), (4, .int (wh)), (5, .int (nI o))] → W p l e { frames := 13, cells := 0, slots := 0, locals := 327 } s m args below meth c H locs 0 0 Q (F0 m 151 ls [.int (bI (decide (o = w)))]) := by
                            intro   H locs hP hD hS ls hl
                            refine lv_iload_n hx hb dX4_span_151 rfl (lv_at hl 3 rfl) ?_
                            have lp_160 : ∀ (H : Heap) (locs : List Loc), va_P g.1 vwCl [(md 0, .inr (4, [.int (gXt u_2), .int (nI (gMi u_2)), .int (nI (gMo u_2)), .int (nI (gMw u_2)), .ref (md 1), .ref (md 2), .ref (md 3), .int (nI (gNi u_2)), .int (nI (gNo u_2)), .ref (md 4), .ref (md 5), .ref (md 6), .int (nI (gNs u_2)), .ref (md 7), .ref (md 8), .int (nI (gNb u_2)), .int (nI (gWd u_2)), .ref (md 9), .long (gTp u_2), .long (gBl u_2), .long (gWt u_2), .long (gWb u_2)])), (md 1, aI g 48 (gLo u_2)), (md 2, aI g 48 (gHi u_2)), (md 3, aZ g 12 (gTr u_2)), (md 4, aI g 48 f), (md 5, aZ g 12 (gAm u_2)), (md 6, aJ g 13000 (gSd u_2)), (md 7, aJ g 85 (gBd u_2)), (md 8, aJ g 5 (gWy u_2)), (md 9, aI g 5 (fun j => nI ((gCh u_2) j)))] H → va_D A [(md 0, .inr (4, [.int (gXt u_2), .int (nI (gMi u_2)), .int (nI (gMo u_2)), .int (nI (gMw u_2)), .ref (md 1), .ref (md 2), .ref (md 3), .int (nI (gNi u_2)), .int (nI (gNo u_2)), .ref (md 4), .ref (md 5), .ref (md 6), .int (nI (gNs u_2)), .ref (md 7), .ref (md 8), .int (nI (gNb u_2)), .int (nI (gWd u_2)), .ref (md 9), .long (gTp u_2), .long (gBl u_2), .long (gWt u_2), .long (gWb u_2)])), (md 1, aI g 48 (gLo u_2)), (md 2, aI g 48 (gHi u_2)), (md 3, aZ g 12 (gTr u_2)), (md 4, aI g 48 f), (md 5, aZ g 12 (gAm u_2)), (md 6, aJ g 13000 (gSd u_2)), (md 7, aJ g 85 (gBd u_2)), (md 8, aJ g 5 (gWy u_2)), (md 9, aI g 5 (fun j => nI ((gCh u_2) j)))] → va_S A s.heap H locs → ∀ ls : Array Slot, lv_has ls 10 [(0, .ref (md 0)), (1, .int (nI v)), (2, .int (nI w)), (3, .int (gr)), (4, .int (wh)), (5, .int (nI o))] → W p l e { frames := 13, cells := 0, slots := 0, locals := 327 } s m args below meth c H locs 0 0 Q (F0 m 160 ls [.int (bI (spW o w gr))]) := by
                              intro   H locs hP hD hS ls hl
                              refine lv_istore (lv' := [(8, .int (bI (spW o w gr))), (0, .ref (md 0)), (1, .int (nI v)), (2, .int (nI w)), (3, .int (gr)), (4, .int (wh)), (5, .int (nI o))]) hx hb dX4_span_160 hl (by decide) rfl (fun ls hl => ?_)
                              refine lv_iconst (v := nI 0) hx hb dX4_span_162 (by decide) ?_
                              refine lv_istore (lv' := [(9, .int (nI 0)), (8, .int (bI (spW o w gr))), (0, .ref (md 0)), (1, .int (nI v)), (2, .int (nI w)), (3, .int (gr)), (4, .int (wh)), (5, .int (nI o))]) hx hb dX4_span_163 hl (by decide) rfl (fun ls hl => ?_)
                              have lp_165 : ∀ (n : Nat) (k : Nat) (h : Nat → Int32), gMi x + gMo x - k < n → k ≤ 4 → spI (gLo x) (gHi x) (gMi x) (spW o w gr) o 0 (gMi x + gMo x) f = spI (gLo x) (gHi x) (gMi x) (spW o w gr) o k ((gMi x + gMo x) - k) h → ∀ (H : Heap) (locs : List Loc), va_P g.1 vwCl [(md 0, .inr (4, [.int (gXt u_2), .int (nI (gMi u_2)), .int (nI (gMo u_2)), .int (nI (gMw u_2)), .ref (md 1), .ref (md 2), .ref (md 3), .int (nI (gNi u_2)), .int (nI (gNo u_2)), .ref (md 4), .ref (md 5), .ref (md 6), .int (nI (gNs u_2)), .ref (md 7), .ref (md 8), .int (nI (gNb u_2)), .int (nI (gWd u_2)), .ref (md 9), .long (gTp u_2), .long (gBl u_2), .long (gWt u_2), .long (gWb u_2)])), (md 1, aI g 48 (gLo u_2)), (md 2, aI g 48 (gHi u_2)), (md 3, aZ g 12 (gTr u_2)), (md 4, aI g 48 h), (md 5, aZ g 12 (gAm u_2)), (md 6, aJ g 13000 (gSd u_2)), (md 7, aJ g 85 (gBd u_2)), (md 8, aJ g 5 (gWy u_2)), (md 9, aI g 5 (fun j => nI ((gCh u_2) j)))] H → va_D A [(md 0, .inr (4, [.int (gXt u_2), .int (nI (gMi u_2)), .int (nI (gMo u_2)), .int (nI (gMw u_2)), .ref (md 1), .ref (md 2), .ref (md 3), .int (nI (gNi u_2)), .int (nI (gNo u_2)), .ref (md 4), .ref (md 5), .ref (md 6), .int (nI (gNs u_2)), .ref (md 7), .ref (md 8), .int (nI (gNb u_2)), .int (nI (gWd u_2)), .ref (md 9), .long (gTp u_2), .long (gBl u_2), .long (gWt u_2), .long (gWb u_2)])), (md 1, aI g 48 (gLo u_2)), (md 2, aI g 48 (gHi u_2)), (md 3, aZ g 12 (gTr u_2)), (md 4, aI g 48 h), (md 5, aZ g 12 (gAm u_2)), (md 6, aJ g 13000 (gSd u_2)), (md 7, aJ g 85 (gBd u_2)), (md 8, aJ g 5 (gWy u_2)), (md 9, aI g 5 (fun j => nI ((gCh u_2) j)))] → va_S A s.heap H locs → ∀ ls : Array Slot, lv_has ls 10 [(0, .ref (md 0)), (1, .int (nI v)), (2, .int (nI w)), (3, .int (gr)), (4, .int (wh)), (5, .int (nI o)), (8, .int (bI (spW o w gr))), (9, .int (nI k))] → W p l e { frames := 13, cells := 0, slots := 0, locals := 327 } s m args below meth c H locs 0 0 Q (F0 m 165 ls []) := by
                                intro n
                                induction n with
                                | zero =>
                                  intro k h hms
                                  omega
                                | succ n ih_165 =>
                                  intro k h hms_165 hk hI H locs hP hD hS ls hl
                                  refine lv_iload hx hb dX4_span_165 (lv_at hl 7 rfl) ?_
                                  refine lv_aload_n hx hb dX4_span_167 rfl (lv_at hl 0 rfl) ?_
                                  refine go_i (wc := [(md 0, .inr (4, [.int (gXt u_2), .int (nI (gMi u_2)), .int (nI (gMo u_2)), .int (nI (gMw u_2)), .ref (md 1), .ref (md 2), .ref (md 3), .int (nI (gNi u_2)), .int (nI (gNo u_2)), .ref (md 4), .ref (md 5), .ref (md 6), .int (nI (gNs u_2)), .ref (md 7), .ref (md 8), .int (nI (gNb u_2)), .int (nI (gWd u_2)), .ref (md 9), .long (gTp u_2), .long (gBl u_2), .long (gWt u_2), .long (gWb u_2)]))]) (wr := [(md 1, aI g 48 (gLo u_2)), (md 2, aI g 48 (gHi u_2)), (md 3, aZ g 12 (gTr u_2)), (md 4, aI g 48 h), (md 5, aZ g 12 (gAm u_2)), (md 6, aJ g 13000 (gSd u_2)), (md 7, aJ g 85 (gBd u_2)), (md 8, aJ g 5 (gWy u_2)), (md 9, aI g 5 (fun j => nI ((gCh u_2) j)))]) hP hD hS hA [0] [1, 2, 3, 4, 5, 6, 7, 8, 9] rfl rfl rfl rfl (by decide) (fun hPc hDc => rn_V (As := []) (rest := [.int (nI k)]) ⟨hx, hb, hml, hown, hts⟩ ((c_X4_things l g md (gXt u_2) (gMi u_2) (gMo u_2) (gMw u_2) (gNi u_2) (gNo u_2) (gNs u_2) (gNb u_2) (gWd u_2) (gTp u_2) (gBl u_2) (gWt u_2) (gWb u_2) ) _) (cw_X4_span_56_0_0 hts hN ⟨Nat.le_of_ble_eq_true rfl, Nat.le_of_ble_eq_true rfl⟩) hK hN hPc hDc 0 rfl rfl rfl rfl hl.1 (Nat.le_of_ble_eq_true rfl) dX4_span_168 ⟨Nat.le_of_ble_eq_true rfl, Nat.le_of_ble_eq_true rfl⟩) ?_
                                  intro r_33 u_34 H locs h_35 hP hD hS
                                  have hP : va_P g.1 vwCl [(md 0, .inr (4, [.int (gXt u_2), .int (nI (gMi u_2)), .int (nI (gMo u_2)), .int (nI (gMw u_2)), .ref (md 1), .ref (md 2), .ref (md 3), .int (nI (gNi u_2)), .int (nI (gNo u_2)), .ref (md 4), .ref (md 5), .ref (md 6), .int (nI (gNs u_2)), .ref (md 7), .ref (md 8), .int (nI (gNb u_2)), .int (nI (gWd u_2)), .ref (md 9), .long (gTp u_2), .long (gBl u_2), .long (gWt u_2), .long (gWb u_2)])), (md 1, aI g 48 (gLo u_2)), (md 2, aI g 48 (gHi u_2)), (md 3, aZ g 12 (gTr u_2)), (md 4, aI g 48 h), (md 5, aZ g 12 (gAm u_2)), (md 6, aJ g 13000 (gSd u_2)), (md 7, aJ g 85 (gBd u_2)), (md 8, aJ g 5 (gWy u_2)), (md 9, aI g 5 (fun j => nI ((gCh u_2) j)))] H := hP.sub [9, 0, 1, 2, 3, 4, 5, 6, 7, 8] rfl
                                  have hD : va_D A [(md 0, .inr (4, [.int (gXt u_2), .int (nI (gMi u_2)), .int (nI (gMo u_2)), .int (nI (gMw u_2)), .ref (md 1), .ref (md 2), .ref (md 3), .int (nI (gNi u_2)), .int (nI (gNo u_2)), .ref (md 4), .ref (md 5), .ref (md 6), .int (nI (gNs u_2)), .ref (md 7), .ref (md 8), .int (nI (gNb u_2)), .int (nI (gWd u_2)), .ref (md 9), .long (gTp u_2), .long (gBl u_2), .long (gWt u_2), .long (gWb u_2)])), (md 1, aI g 48 (gLo u_2)), (md 2, aI g 48 (gHi u_2)), (md 3, aZ g 12 (gTr u_2)), (md 4, aI g 48 h), (md 5, aZ g 12 (gAm u_2)), (md 6, aJ g 13000 (gSd u_2)), (md 7, aJ g 85 (gBd u_2)), (md 8, aJ g 5 (gWy u_2)), (md 9, aI g 5 (fun j => nI ((gCh u_2) j)))] := hD.sub [9, 0, 1, 2, 3, 4, 5, 6, 7, 8] rfl rfl
                                  have h_35 : r_33 = nI ((gMi u_2) + (gMo u_2)) := h_35
                                  subst h_35
                                  refine lv_icmp_ge (tgt := 238) hx hb dX4_span_171 (by decide) (fun c_36 => ?_) (fun c_36 => ?_)
                                  · skip
                                    have c_36 := (nI_leI (by omega) (by omega)).mp c_36
                                    have hsf : spI (gLo x) (gHi x) (gMi x) (spW o w gr) o 0 (gMi x + gMo x) f = h := by rw [hI, show (gMi x + gMo x) - k = 0 by omega]; rfl
                                    have hv2 : mspF x w gr = spM (gLo x) (gHi x) (gTr x) (gMi x) (gMi x + gMo x) w gr (o + 1) (gMw x - (o + 1)) (h) := by rw [hv, show gMw x - o = (gMw x - (o + 1)) + 1 by omega, spM, if_neg hto, if_neg hsn, hsf]
                                    refine lv_iinc (v := nI (o + 1)) (lv' := [(5, .int (nI (o + 1))), (0, .ref (md 0)), (1, .int (nI v)), (2, .int (nI w)), (3, .int (gr)), (4, .int (wh)), (8, .int (bI (spW o w gr))), (9, .int (nI k))]) hx hb dX4_span_238 hl (k := 5) rfl (nI_inc1 o) (by decide) rfl (fun ls hl => ?_)
                                    refine lv_goto (tgt := 34) hx hb dX4_span_241 (by decide) ?_
                                    exact ih_34 (o + 1) h (by omega) (by omega) hv2 _ _ hP hD hS ls (lv_sub hl [1, 2, 3, 4, 5, 0] rfl)
                                  · skip
                                    have c_36 := mt (nI_leI (by omega) (by omega)).mpr c_36
                                    refine lv_aload_n hx hb dX4_span_174 rfl (lv_at hl 0 rfl) ?_
                                    refine k_get hx hb hts hown hK hP iw_X4_span_X4 rfl 0 9 fm_X4_span_27 (by decide) rfl rfl dX4_span_175 ?_
                                    refine lv_iconst (v := nI 4) hx hb dX4_span_178 (by decide) ?_
                                    refine lv_iload hx hb dX4_span_179 (lv_at hl 5 rfl) ?_
                                    refine lv_imul hx hb dX4_span_181 ?_
                                    refine k_ei (y := nI (o * 4)) ((pk_mul _ _).trans (congrArg nI (Nat.mul_comm _ _))) ?_
                                    refine lv_iload hx hb dX4_span_182 (lv_at hl 7 rfl) ?_
                                    refine lv_iadd hx hb dX4_span_184 ?_
                                    refine k_ei (y := nI (o * 4 + k)) (nI_add _ _) ?_
                                    refine lv_iload hx hb dX4_span_185 (lv_at hl 7 rfl) ?_
                                    refine lv_aload_n hx hb dX4_span_187 rfl (lv_at hl 0 rfl) ?_
                                    refine k_get hx hb hts hown hK hP iw_X4_span_X4 rfl 0 1 fm_X4_span_9 (by decide) rfl rfl dX4_span_188 ?_
                                    have lp_199 : ∀ (H : Heap) (locs : List Loc), va_P g.1 vwCl [(md 0, .inr (4, [.int (gXt u_2), .int (nI (gMi u_2)), .int (nI (gMo u_2)), .int (nI (gMw u_2)), .ref (md 1), .ref (md 2), .ref (md 3), .int (nI (gNi u_2)), .int (nI (gNo u_2)), .ref (md 4), .ref (md 5), .ref (md 6), .int (nI (gNs u_2)), .ref (md 7), .ref (md 8), .int (nI (gNb u_2)), .int (nI (gWd u_2)), .ref (md 9), .long (gTp u_2), .long (gBl u_2), .long (gWt u_2), .long (gWb u_2)])), (md 1, aI g 48 (gLo u_2)), (md 2, aI g 48 (gHi u_2)), (md 3, aZ g 12 (gTr u_2)), (md 4, aI g 48 h), (md 5, aZ g 12 (gAm u_2)), (md 6, aJ g 13000 (gSd u_2)), (md 7, aJ g 85 (gBd u_2)), (md 8, aJ g 5 (gWy u_2)), (md 9, aI g 5 (fun j => nI ((gCh u_2) j)))] H → va_D A [(md 0, .inr (4, [.int (gXt u_2), .int (nI (gMi u_2)), .int (nI (gMo u_2)), .int (nI (gMw u_2)), .ref (md 1), .ref (md 2), .ref (md 3), .int (nI (gNi u_2)), .int (nI (gNo u_2)), .ref (md 4), .ref (md 5), .ref (md 6), .int (nI (gNs u_2)), .ref (md 7), .ref (md 8), .int (nI (gNb u_2)), .int (nI (gWd u_2)), .ref (md 9), .long (gTp u_2), .long (gBl u_2), .long (gWt u_2), .long (gWb u_2)])), (md 1, aI g 48 (gLo u_2)), (md 2, aI g 48 (gHi u_2)), (md 3, aZ g 12 (gTr u_2)), (md 4, aI g 48 h), (md 5, aZ g 12 (gAm u_2)), (md 6, aJ g 13000 (gSd u_2)), (md 7, aJ g 85 (gBd u_2)), (md 8, aJ g 5 (gWy u_2)), (md 9, aI g 5 (fun j => nI ((gCh u_2) j)))] → va_S A s.heap H locs → ∀ ls : Array Slot, lv_has ls 10 [(0, .ref (md 0)), (1, .int (nI v)), (2, .int (nI w)), (3, .int (gr)), (4, .int (wh)), (5, .int (nI o)), (8, .int (bI (spW o w gr))), (9, .int (nI k))] → W p l e { frames := 13, cells := 0, slots := 0, locals := 327 } s m args below meth c H locs 0 0 Q (F0 m 199 ls [.int (bI (decide (k < gMi x))), .int (nI (o * 4 + k)), .ref (md 4)]) := by
                                      intro   H locs hP hD hS ls hl
                                      refine lv_iload hx hb dX4_span_199 (lv_at hl 6 rfl) ?_
                                      have lp_231 : ∀ (H : Heap) (locs : List Loc), va_P g.1 vwCl [(md 0, .inr (4, [.int (gXt u_2), .int (nI (gMi u_2)), .int (nI (gMo u_2)), .int (nI (gMw u_2)), .ref (md 1), .ref (md 2), .ref (md 3), .int (nI (gNi u_2)), .int (nI (gNo u_2)), .ref (md 4), .ref (md 5), .ref (md 6), .int (nI (gNs u_2)), .ref (md 7), .ref (md 8), .int (nI (gNb u_2)), .int (nI (gWd u_2)), .ref (md 9), .long (gTp u_2), .long (gBl u_2), .long (gWt u_2), .long (gWb u_2)])), (md 1, aI g 48 (gLo u_2)), (md 2, aI g 48 (gHi u_2)), (md 3, aZ g 12 (gTr u_2)), (md 4, aI g 48 h), (md 5, aZ g 12 (gAm u_2)), (md 6, aJ g 13000 (gSd u_2)), (md 7, aJ g 85 (gBd u_2)), (md 8, aJ g 5 (gWy u_2)), (md 9, aI g 5 (fun j => nI ((gCh u_2) j)))] H → va_D A [(md 0, .inr (4, [.int (gXt u_2), .int (nI (gMi u_2)), .int (nI (gMo u_2)), .int (nI (gMw u_2)), .ref (md 1), .ref (md 2), .ref (md 3), .int (nI (gNi u_2)), .int (nI (gNo u_2)), .ref (md 4), .ref (md 5), .ref (md 6), .int (nI (gNs u_2)), .ref (md 7), .ref (md 8), .int (nI (gNb u_2)), .int (nI (gWd u_2)), .ref (md 9), .long (gTp u_2), .long (gBl u_2), .long (gWt u_2), .long (gWb u_2)])), (md 1, aI g 48 (gLo u_2)), (md 2, aI g 48 (gHi u_2)), (md 3, aZ g 12 (gTr u_2)), (md 4, aI g 48 h), (md 5, aZ g 12 (gAm u_2)), (md 6, aJ g 13000 (gSd u_2)), (md 7, aJ g 85 (gBd u_2)), (md 8, aJ g 5 (gWy u_2)), (md 9, aI g 5 (fun j => nI ((gCh u_2) j)))] → va_S A s.heap H locs → ∀ ls : Array Slot, lv_has ls 10 [(0, .ref (md 0)), (1, .int (nI v)), (2, .int (nI w)), (3, .int (gr)), (4, .int (wh)), (5, .int (nI o)), (8, .int (bI (spW o w gr))), (9, .int (nI k))] → W p l e { frames := 13, cells := 0, slots := 0, locals := 327 } s m args below meth c H locs 0 0 Q (F0 m 231 ls [.int (spV (gLo x) (gHi x) (gMi x) (spW o w gr) (o * 4 + k) k), .int (nI (o * 4 + k)), .ref (md 4)]) := by
                                        intro   H locs hP hD hS ls hl
                                        refine k_iast hx hb hK hP hD hS 4 rfl (by omega) (by omega) dX4_span_231 (fun H locs hP hD hS => ?_)
                                        have hP : va_P g.1 vwCl [(md 0, .inr (4, [.int (gXt u_2), .int (nI (gMi u_2)), .int (nI (gMo u_2)), .int (nI (gMw u_2)), .ref (md 1), .ref (md 2), .ref (md 3), .int (nI (gNi u_2)), .int (nI (gNo u_2)), .ref (md 4), .ref (md 5), .ref (md 6), .int (nI (gNs u_2)), .ref (md 7), .ref (md 8), .int (nI (gNb u_2)), .int (nI (gWd u_2)), .ref (md 9), .long (gTp u_2), .long (gBl u_2), .long (gWt u_2), .long (gWb u_2)])), (md 1, aI g 48 (gLo u_2)), (md 2, aI g 48 (gHi u_2)), (md 3, aZ g 12 (gTr u_2)), (md 4, aI g 48 (upd h (o * 4 + k) (spV (gLo x) (gHi x) (gMi x) (spW o w gr) (o * 4 + k) k))), (md 5, aZ g 12 (gAm u_2)), (md 6, aJ g 13000 (gSd u_2)), (md 7, aJ g 85 (gBd u_2)), (md 8, aJ g 5 (gWy u_2)), (md 9, aI g 5 (fun j => nI ((gCh u_2) j)))] H := hP
                                        have hD : va_D A [(md 0, .inr (4, [.int (gXt u_2), .int (nI (gMi u_2)), .int (nI (gMo u_2)), .int (nI (gMw u_2)), .ref (md 1), .ref (md 2), .ref (md 3), .int (nI (gNi u_2)), .int (nI (gNo u_2)), .ref (md 4), .ref (md 5), .ref (md 6), .int (nI (gNs u_2)), .ref (md 7), .ref (md 8), .int (nI (gNb u_2)), .int (nI (gWd u_2)), .ref (md 9), .long (gTp u_2), .long (gBl u_2), .long (gWt u_2), .long (gWb u_2)])), (md 1, aI g 48 (gLo u_2)), (md 2, aI g 48 (gHi u_2)), (md 3, aZ g 12 (gTr u_2)), (md 4, aI g 48 (upd h (o * 4 + k) (spV (gLo x) (gHi x) (gMi x) (spW o w gr) (o * 4 + k) k))), (md 5, aZ g 12 (gAm u_2)), (md 6, aJ g 13000 (gSd u_2)), (md 7, aJ g 85 (gBd u_2)), (md 8, aJ g 5 (gWy u_2)), (md 9, aI g 5 (fun j => nI ((gCh u_2) j)))] := hD
                                        refine lv_iinc (v := nI (k + 1)) (lv' := [(9, .int (nI (k + 1))), (0, .ref (md 0)), (1, .int (nI v)), (2, .int (nI w)), (3, .int (gr)), (4, .int (wh)), (5, .int (nI o)), (8, .int (bI (spW o w gr)))]) hx hb dX4_span_232 hl (k := 7) rfl (nI_inc1 k) (by decide) rfl (fun ls hl => ?_)
                                        refine lv_goto (tgt := 165) hx hb dX4_span_235 (by decide) ?_
                                        exact ih_165 (k + 1) (upd h (o * 4 + k) (spV (gLo x) (gHi x) (gMi x) (spW o w gr) (o * 4 + k) k)) (by omega) (by omega) (by rw [hI, show (gMi x + gMo x) - k = ((gMi x + gMo x) - (k + 1)) + 1 by omega, spI]) _ _ hP hD hS ls (lv_sub hl [1, 2, 3, 4, 5, 6, 7, 0] rfl)
                                      refine lv_icmp_ne (tgt := 219) hx hb dX4_span_201 (by decide) (fun c_37 => ?_) (fun c_37 => ?_)
                                      · skip
                                        have hsv : spV (gLo x) (gHi x) (gMi x) (spW o w gr) (o * 4 + k) k = gHi x (o * 4 + k) := if_neg c_37
                                        refine lv_aload_n hx hb dX4_span_219 rfl (lv_at hl 0 rfl) ?_
                                        refine k_get hx hb hts hown hK hP iw_X4_span_X4 rfl 0 5 fm_X4_span_20 (by decide) rfl rfl dX4_span_220 ?_
                                        refine lv_iconst (v := nI 4) hx hb dX4_span_223 (by decide) ?_
                                        refine lv_iload hx hb dX4_span_224 (lv_at hl 5 rfl) ?_
                                        refine lv_imul hx hb dX4_span_226 ?_
                                        refine k_ei (y := nI (o * 4)) ((pk_mul _ _).trans (congrArg nI (Nat.mul_comm _ _))) ?_
                                        refine lv_iload hx hb dX4_span_227 (lv_at hl 7 rfl) ?_
                                        refine lv_iadd hx hb dX4_span_229 ?_
                                        refine k_ei (y := nI (o * 4 + k)) (nI_add _ _) ?_
                                        refine k_iald hx hb hK hP 2 rfl (by omega) (by omega) dX4_span_230 ?_
                                        refine k_ei (y := spV (gLo x) (gHi x) (gMi x) (spW o w gr) (o * 4 + k) k) (by rw [hsv, hk5]) ?_
                                        exact lp_231   _ _ hP hD hS ls (lv_sub hl [0, 1, 2, 3, 4, 5, 6, 7] rfl)
                                      · skip
                                        have hsv : spV (gLo x) (gHi x) (gMi x) (spW o w gr) (o * 4 + k) k = gLo x (o * 4 + k) := if_pos c_37
                                        refine lv_aload_n hx hb dX4_span_204 rfl (lv_at hl 0 rfl) ?_
                                        refine k_get hx hb hts hown hK hP iw_X4_span_X4 rfl 0 4 fm_X4_span_16 (by decide) rfl rfl dX4_span_205 ?_
                                        refine lv_iconst (v := nI 4) hx hb dX4_span_208 (by decide) ?_
                                        refine lv_iload hx hb dX4_span_209 (lv_at hl 5 rfl) ?_
                                        refine lv_imul hx hb dX4_span_211 ?_
                                        refine k_ei (y := nI (o * 4)) ((pk_mul _ _).trans (congrArg nI (Nat.mul_comm _ _))) ?_
                                        refine lv_iload hx hb dX4_span_212 (lv_at hl 7 rfl) ?_
                                        refine lv_iadd hx hb dX4_span_214 ?_
                                        refine k_ei (y := nI (o * 4 + k)) (nI_add _ _) ?_
                                        refine k_iald hx hb hK hP 1 rfl (by omega) (by omega) dX4_span_215 ?_
                                        refine k_ei (y := spV (gLo x) (gHi x) (gMi x) (spW o w gr) (o * 4 + k) k) (by rw [hsv, hk4]) ?_
                                        refine lv_goto (tgt := 231) hx hb dX4_span_216 (by decide) ?_
                                        exact lp_231   _ _ hP hD hS ls (lv_sub hl [0, 1, 2, 3, 4, 5, 6, 7] rfl)
                                    refine lv_icmp_ge (tgt := 198) hx hb dX4_span_191 (by decide) (fun c_38 => ?_) (fun c_38 => ?_)
                                    · skip
                                      have c_38 := (nI_leI (by omega) (by omega)).mp c_38
                                      have hkb : decide (k < gMi x) = false := decide_eq_false (by omega)
                                      refine lv_iconst (v := nI 0) hx hb dX4_span_198 (by decide) ?_
                                      refine k_ei (y := bI (decide (k < gMi x))) (by rw [hkb]; rfl) ?_
                                      exact lp_199   _ _ hP hD hS ls (lv_sub hl [0, 1, 2, 3, 4, 5, 6, 7] rfl)
                                    · skip
                                      have c_38 := mt (nI_leI (by omega) (by omega)).mpr c_38
                                      have hkb : decide (k < gMi x) = true := decide_eq_true (by omega)
                                      refine lv_iconst (v := nI 1) hx hb dX4_span_194 (by decide) ?_
                                      refine k_ei (y := bI (decide (k < gMi x))) (by rw [hkb]; rfl) ?_
                                      refine lv_goto (tgt := 199) hx hb dX4_span_195 (by decide) ?_
                                      exact lp_199   _ _ hP hD hS ls (lv_sub hl [0, 1, 2, 3, 4, 5, 6, 7] rfl)
                              exact lp_165 (gMi x + gMo x - 0 + 1) 0 f (by omega) (by omega) rfl _ _ hP hD hS ls (lv_sub hl [2, 3, 4, 5, 6, 7, 1, 0] rfl)
                            refine lv_icmp_ne (tgt := 159) hx hb dX4_span_152 (by decide) (fun c_39 => ?_) (fun c_39 => ?_)
                            · skip
                              have hwl : spW o w gr = false := decide_eq_false c_39
                              refine lv_iconst (v := nI 0) hx hb dX4_span_159 (by decide) ?_
                              refine k_ei (y := bI (spW o w gr)) (by rw [hwl]; rfl) ?_
                              exact lp_160   _ _ hP hD hS ls (lv_sub hl [0, 1, 2, 3, 4, 5] rfl)
                            · skip
                              have hwl : spW o w gr = true := decide_eq_true c_39
                              refine lv_iconst (v := nI 1) hx hb dX4_span_155 (by decide) ?_
                              refine k_ei (y := bI (spW o w gr)) (by rw [hwl]; rfl) ?_
                              refine lv_goto (tgt := 160) hx hb dX4_span_156 (by decide) ?_
                              exact lp_160   _ _ hP hD hS ls (lv_sub hl [0, 1, 2, 3, 4, 5] rfl)
                          refine lv_icmp_ne (tgt := 150) hx hb dX4_span_143 (by decide) (fun c_40 => ?_) (fun c_40 => ?_)
                          · skip
                            have c_40 := mt (nI_eq (by omega) (by omega)).mpr c_40
                            have how : decide (o = w) = false := decide_eq_false c_40
                            refine lv_iconst (v := nI 0) hx hb dX4_span_150 (by decide) ?_
                            refine k_ei (y := bI (decide (o = w))) (by rw [how]; rfl) ?_
                            exact lp_151   _ _ hP hD hS ls (lv_sub hl [0, 1, 2, 3, 4, 5] rfl)
                          · skip
                            have c_40 := (nI_eq (by omega) (by omega)).mp c_40
                            have how : decide (o = w) = true := decide_eq_true c_40
                            refine lv_iconst (v := nI 1) hx hb dX4_span_146 (by decide) ?_
                            refine k_ei (y := bI (decide (o = w))) (by rw [how]; rfl) ?_
                            refine lv_goto (tgt := 151) hx hb dX4_span_147 (by decide) ?_
                            exact lp_151   _ _ hP hD hS ls (lv_sub hl [0, 1, 2, 3, 4, 5] rfl)
                        · skip
                          have hfin : msnP x (nI v) (nI w) gr wh (-1) := Or.inl ⟨hsc, Or.inl ⟨by rw [wN_n hw31, hv, show gMw x - o = (gMw x - (o + 1)) + 1 by omega, spM, if_neg hto, if_pos (by rw [hqf]; exact Or.inr c_32)], rfl⟩⟩
                          refine lv_ldc2 (v := -1) hx hb hown (hts _ (List.mem_of_getElem? (i := 1) rfl)) dX4_span_136 ?_
                          exact ret dX4_span_139 ((gXt u_2, gMi u_2, gMo u_2, gMw u_2, gLo u_2, gHi u_2, gTr u_2, gNi u_2, gNo u_2, f, gAm u_2, gSd u_2, gNs u_2, gBd u_2, gWy u_2, gNb u_2, gWd u_2, (gCh u_2), gTp u_2, gBl u_2, gWt u_2, gWb u_2)) (⟨hkp, hfin⟩) hP hD hS
                    · skip
                      have c_30 := mt (nI_leI (by omega) (by omega)).mpr c_30
                      refine lv_iload hx hb dX4_span_74 (lv_at hl 8 rfl) ?_
                      refine lv_aload_n hx hb dX4_span_76 rfl (lv_at hl 0 rfl) ?_
                      refine k_get hx hb hts hown hK hP iw_X4_span_X4 rfl 0 1 fm_X4_span_9 (by decide) rfl rfl dX4_span_77 ?_
                      refine lv_icmp_ge (tgt := 103) hx hb dX4_span_80 (by decide) (fun c_41 => ?_) (fun c_41 => ?_)
                      · skip
                        have c_41 := (nI_leI (by omega) (by omega)).mp c_41
                        have hq2 : lwS (gLo x) (gMi x) o 0 (gMi x + gMo x) (0, 0) = lwS (gLo x) (gMi x) o (k + 1) ((gMi x + gMo x) - (k + 1)) (si, so + gLo x (o * 4 + k)) := by rw [hq, show (gMi x + gMo x) - k = ((gMi x + gMo x) - (k + 1)) + 1 by omega, lwS, if_neg (by omega)]
                        refine lv_iload hx hb dX4_span_103 (lv_at hl 7 rfl) ?_
                        refine lv_aload_n hx hb dX4_span_105 rfl (lv_at hl 0 rfl) ?_
                        refine k_get hx hb hts hown hK hP iw_X4_span_X4 rfl 0 4 fm_X4_span_16 (by decide) rfl rfl dX4_span_106 ?_
                        refine lv_iconst (v := nI 4) hx hb dX4_span_109 (by decide) ?_
                        refine lv_iload hx hb dX4_span_110 (lv_at hl 5 rfl) ?_
                        refine lv_imul hx hb dX4_span_112 ?_
                        refine k_ei (y := nI (o * 4)) ((pk_mul _ _).trans (congrArg nI (Nat.mul_comm _ _))) ?_
                        refine lv_iload hx hb dX4_span_113 (lv_at hl 8 rfl) ?_
                        refine lv_iadd hx hb dX4_span_115 ?_
                        refine k_ei (y := nI (o * 4 + k)) (nI_add _ _) ?_
                        refine k_iald hx hb hK hP 1 rfl (by omega) (by omega) dX4_span_116 ?_
                        refine k_ei (y := gLo x (o * 4 + k)) (by rw [hk4]) ?_
                        refine lv_iadd hx hb dX4_span_117 ?_
                        refine lv_istore (lv' := [(7, .int (so + (gLo x (o * 4 + k)))), (0, .ref (md 0)), (1, .int (nI v)), (2, .int (nI w)), (3, .int (gr)), (4, .int (wh)), (5, .int (nI o)), (6, .int (si)), (8, .int (nI k))]) hx hb dX4_span_118 hl (by decide) rfl (fun ls hl => ?_)
                        refine lv_iinc (v := nI (k + 1)) (lv' := [(8, .int (nI (k + 1))), (7, .int (so + (gLo x (o * 4 + k)))), (0, .ref (md 0)), (1, .int (nI v)), (2, .int (nI w)), (3, .int (gr)), (4, .int (wh)), (5, .int (nI o)), (6, .int (si))]) hx hb dX4_span_120 hl (k := 8) rfl (nI_inc1 k) (by decide) rfl (fun ls hl => ?_)
                        refine lv_goto (tgt := 65) hx hb dX4_span_123 (by decide) ?_
                        exact ih_65 si (so + (gLo x (o * 4 + k))) (k + 1) (by omega) (by omega) hq2 _ _ hP hD hS ls (lv_sub hl [2, 3, 4, 5, 6, 7, 8, 1, 0] rfl)
                      · skip
                        have c_41 := mt (nI_leI (by omega) (by omega)).mpr c_41
                        have hq2 : lwS (gLo x) (gMi x) o 0 (gMi x + gMo x) (0, 0) = lwS (gLo x) (gMi x) o (k + 1) ((gMi x + gMo x) - (k + 1)) (si + gLo x (o * 4 + k), so) := by rw [hq, show (gMi x + gMo x) - k = ((gMi x + gMo x) - (k + 1)) + 1 by omega, lwS, if_pos (by omega)]
                        refine lv_iload hx hb dX4_span_83 (lv_at hl 6 rfl) ?_
                        refine lv_aload_n hx hb dX4_span_85 rfl (lv_at hl 0 rfl) ?_
                        refine k_get hx hb hts hown hK hP iw_X4_span_X4 rfl 0 4 fm_X4_span_16 (by decide) rfl rfl dX4_span_86 ?_
                        refine lv_iconst (v := nI 4) hx hb dX4_span_89 (by decide) ?_
                        refine lv_iload hx hb dX4_span_90 (lv_at hl 5 rfl) ?_
                        refine lv_imul hx hb dX4_span_92 ?_
                        refine k_ei (y := nI (o * 4)) ((pk_mul _ _).trans (congrArg nI (Nat.mul_comm _ _))) ?_
                        refine lv_iload hx hb dX4_span_93 (lv_at hl 8 rfl) ?_
                        refine lv_iadd hx hb dX4_span_95 ?_
                        refine k_ei (y := nI (o * 4 + k)) (nI_add _ _) ?_
                        refine k_iald hx hb hK hP 1 rfl (by omega) (by omega) dX4_span_96 ?_
                        refine k_ei (y := gLo x (o * 4 + k)) (by rw [hk4]) ?_
                        refine lv_iadd hx hb dX4_span_97 ?_
                        refine lv_istore (lv' := [(6, .int (si + (gLo x (o * 4 + k)))), (0, .ref (md 0)), (1, .int (nI v)), (2, .int (nI w)), (3, .int (gr)), (4, .int (wh)), (5, .int (nI o)), (7, .int (so)), (8, .int (nI k))]) hx hb dX4_span_98 hl (by decide) rfl (fun ls hl => ?_)
                        refine lv_goto (tgt := 120) hx hb dX4_span_100 (by decide) ?_
                        refine lv_iinc (v := nI (k + 1)) (lv' := [(8, .int (nI (k + 1))), (6, .int (si + (gLo x (o * 4 + k)))), (0, .ref (md 0)), (1, .int (nI v)), (2, .int (nI w)), (3, .int (gr)), (4, .int (wh)), (5, .int (nI o)), (7, .int (so))]) hx hb dX4_span_120 hl (k := 8) rfl (nI_inc1 k) (by decide) rfl (fun ls hl => ?_)
                        refine lv_goto (tgt := 65) hx hb dX4_span_123 (by decide) ?_
                        exact ih_65 (si + (gLo x (o * 4 + k))) so (k + 1) (by omega) (by omega) hq2 _ _ hP hD hS ls (lv_sub hl [2, 3, 4, 5, 6, 7, 1, 8, 0] rfl)
                exact lp_65 (gMi x + gMo x - 0 + 1) (nI 0) (nI 0) 0 (by omega) (by omega) rfl _ _ hP hD hS ls (lv_sub hl [3, 4, 5, 6, 7, 8, 2, 1, 0] rfl)
              · skip
                have hv2 : mspF x w gr = spM (gLo x) (gHi x) (gTr x) (gMi x) (gMi x + gMo x) w gr (o + 1) (gMw x - (o + 1)) (f) := by rw [hv, show gMw x - o = (gMw x - (o + 1)) + 1 by omega, spM, if_pos (by rw [← hk6]; exact c_26)]
                refine lv_goto (tgt := 238) hx hb dX4_span_53 (by decide) ?_
                refine lv_iinc (v := nI (o + 1)) (lv' := [(5, .int (nI (o + 1))), (0, .ref (md 0)), (1, .int (nI v)), (2, .int (nI w)), (3, .int (gr)), (4, .int (wh))]) hx hb dX4_span_238 hl (k := 5) rfl (nI_inc1 o) (by decide) rfl (fun ls hl => ?_)
                refine lv_goto (tgt := 34) hx hb dX4_span_241 (by decide) ?_
                exact ih_34 (o + 1) f (by omega) (by omega) hv2 _ _ hP hD hS ls (lv_sub hl [1, 2, 3, 4, 5, 0] rfl)
        exact lp_34 (gMw x - 0 + 1) 0 (gNu u_2) (by omega) (by omega) (by rw [hp3]; rfl) _ _ hP hD hS ls (lv_sub hl [1, 2, 3, 4, 5, 0] rfl)
      · skip
        have c_12 := mt (nI_leI (by omega) (by omega)).mpr c_12
        have hfin : msnP x vw wk gr wh (-1) := Or.inr ⟨fun q => by have q3 := q.2.2; rw [← hms0] at q3; omega, rfl⟩
        refine lv_ldc2 (v := -1) hx hb hown (hts _ (List.mem_of_getElem? (i := 1) rfl)) dX4_span_27 ?_
        exact ret dX4_span_30 ((gXt u_2, gMi u_2, gMo u_2, gMw u_2, gLo u_2, gHi u_2, gTr u_2, gNi u_2, gNo u_2, gNu u_2, gAm u_2, gSd u_2, gNs u_2, gBd u_2, gWy u_2, gNb u_2, gWd u_2, (gCh u_2), gTp u_2, gBl u_2, gWt u_2, gWb u_2)) (⟨hkp, hfin⟩) hP hD hS
