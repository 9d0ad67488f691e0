/-- all that the reference's object holds -/
abbrev MS : Type := Int32 × Nat × Nat × Nat × (Nat → Int32) × (Nat → Int32) × (Nat → Int32) × Nat × Nat × (Nat → Int32) × (Nat → Int32) × (Nat → Int64) × Nat × (Nat → Int64) × (Nat → Int64) × Nat × Nat × (Nat → Nat) × Int64 × Int64 × Int64 × Int64
abbrev gXt (x : MS) : Int32 := x.1
abbrev gMi (x : MS) : Nat := x.2.1
abbrev gMo (x : MS) : Nat := x.2.2.1
abbrev gMw (x : MS) : Nat := x.2.2.2.1
abbrev gLo (x : MS) : Nat → Int32 := x.2.2.2.2.1
abbrev gHi (x : MS) : Nat → Int32 := x.2.2.2.2.2.1
abbrev gTr (x : MS) : Nat → Int32 := x.2.2.2.2.2.2.1
abbrev gNi (x : MS) : Nat := x.2.2.2.2.2.2.2.1
abbrev gNo (x : MS) : Nat := x.2.2.2.2.2.2.2.2.1
abbrev gNu (x : MS) : Nat → Int32 := x.2.2.2.2.2.2.2.2.2.1
abbrev gAm (x : MS) : Nat → Int32 := x.2.2.2.2.2.2.2.2.2.2.1
abbrev gSd (x : MS) : Nat → Int64 := x.2.2.2.2.2.2.2.2.2.2.2.1
abbrev gNs (x : MS) : Nat := x.2.2.2.2.2.2.2.2.2.2.2.2.1
abbrev gBd (x : MS) : Nat → Int64 := x.2.2.2.2.2.2.2.2.2.2.2.2.2.1
abbrev gWy (x : MS) : Nat → Int64 := x.2.2.2.2.2.2.2.2.2.2.2.2.2.2.1
abbrev gNb (x : MS) : Nat := x.2.2.2.2.2.2.2.2.2.2.2.2.2.2.2.1
abbrev gWd (x : MS) : Nat := x.2.2.2.2.2.2.2.2.2.2.2.2.2.2.2.2.1
abbrev gCh (x : MS) : Nat → Nat := x.2.2.2.2.2.2.2.2.2.2.2.2.2.2.2.2.2.1
abbrev gTp (x : MS) : Int64 := x.2.2.2.2.2.2.2.2.2.2.2.2.2.2.2.2.2.2.1
abbrev gBl (x : MS) : Int64 := x.2.2.2.2.2.2.2.2.2.2.2.2.2.2.2.2.2.2.2.1
abbrev gWt (x : MS) : Int64 := x.2.2.2.2.2.2.2.2.2.2.2.2.2.2.2.2.2.2.2.2.1
abbrev gWb (x : MS) : Int64 := x.2.2.2.2.2.2.2.2.2.2.2.2.2.2.2.2.2.2.2.2.2
def mBen (x : MS) : Prop := (1 ≤ gMi x ∧ gMi x ≤ 2) ∧ (1 ≤ gMo x ∧ gMo x ≤ 2) ∧ gMw x ≤ 12 ∧ ∀ j, gTr x j = 0 ∨ gTr x j = 1
def mIs (y : MS) (mi mo mw : Nat) (lo hi tr : Nat → Int32) : Prop := gMi y = mi ∧ gMo y = mo ∧ gMw y = mw ∧ gLo y = lo ∧ gHi y = hi ∧ gTr y = tr
def mKeep (x y : MS) : Prop := mIs y (gMi x) (gMo x) (gMw x) (gLo x) (gHi x) (gTr x)
theorem isI_get {x : Int32} {a b : Nat} (ha : a < 2 ^ 31) (hb : b < 2 ^ 31) (h : isI x (nI a) (nI b) = true) : ∃ j : Nat, x = nI j ∧ a ≤ j ∧ j ≤ b ∧ j < 2 ^ 31 := by
  have h := of_decide_eq_true h
  rw [i32_geN ha, i32_leN hb] at h
  obtain ⟨j, h1, h2, h3⟩ := nI_get (x := x) (by omega)
  exact ⟨j, h1, by omega, by omega, h2⟩
theorem isI_num (x : Int32) : isI x (nI 0) (nI 30) = isNum x := by
  unfold isI isNum
  rw [decide_eq_decide, i32_geN (by decide), i32_leN (by decide)]
  omega
def staM (x y : MS) (a b r : Int32) : Prop := ((isI a (nI 1) (nI 2) = true ∧ isI b (nI 1) (nI 2) = true) ∧ r = nI 1 ∧ mIs y (wN a) (wN b) 0 (gLo x) (gHi x) (gTr x)) ∨ (¬ (isI a (nI 1) (nI 2) = true ∧ isI b (nI 1) (nI 2) = true) ∧ r = nI 0 ∧ mKeep x y)
def setM (x y : MS) (w b r : Int32) : Prop := ((inR w (gMw x) = true ∧ ¬ gTr x (wN w) = b) ∧ r = nI 1 ∧ mIs y (gMi x) (gMo x) (gMw x) (gLo x) (gHi x) (upd (gTr x) (wN w) b)) ∨ (¬ (inR w (gMw x) = true ∧ ¬ gTr x (wN w) = b) ∧ r = nI 0 ∧ mKeep x y)
def msmC (x : MS) (w t a b : Int32) : Prop := inR w (gMw x) = true ∧ isI t (nI 0) (nI (gMi x + gMo x - 1)) = true ∧ isI a (nI 0) (nI 30) = true ∧ isI b a (nI 30) = true
def msmP (x y : MS) (w t a b r : Int32) : Prop := (msmC x w t a b ∧ r = nI 1 ∧ mIs y (gMi x) (gMo x) (gMw x) (upd (gLo x) (wN w * 4 + wN t) a) (upd (gHi x) (wN w * 4 + wN t) b) (gTr x)) ∨ (¬ msmC x w t a b ∧ r = nI 0 ∧ mKeep x y)
def atC (x : MS) (w t wh : Int32) : Prop := inR w (gMw x) = true ∧ isI t (nI 0) (nI (gMi x + gMo x - 1)) = true ∧ isI wh (nI 0) (nI 1) = true
def atP (x : MS) (w t wh r : Int32) : Prop := (atC x w t wh ∧ ((wh = 0 ∧ r = gLo x (wN w * 4 + wN t)) ∨ (¬ wh = 0 ∧ r = gHi x (wN w * 4 + wN t)))) ∨ (¬ atC x w t wh ∧ r = -1)
def wkG (w : Nat) (a b c d : Int32) (t k : Nat) : Nat → (Nat → Int32) → Nat → Int32
  | 0, f => f
  | n + 1, f => wkG w a b c d t (k + 1) n (upd f (w * 4 + k) (if k < t then pk4 k a b c d else nI 0))
def wkD (x : MS) (a b c d : Int32) : Prop := ¬ gMw x = 12 ∧ ∃ q, wkL (gMi x) a b c d 0 (gMi x + gMo x) (0, 0) = some q ∧ ¬ q.1 = 0 ∧ ¬ q.2 = 0
def wokM (x y : MS) (a b c d r : Int32) : Prop := (wkD x a b c d ∧ r = nI (gMw x) ∧ mIs y (gMi x) (gMo x) (gMw x + 1) (wkG (gMw x) a b c d (gMi x + gMo x) 0 4 (gLo x)) (wkG (gMw x) a b c d (gMi x + gMo x) 0 4 (gHi x)) (upd (gTr x) (gMw x) (nI 1))) ∨ (¬ wkD x a b c d ∧ r = -1 ∧ mKeep x y)
def cuM (x : MS) (wh : Int32) : Int32 := if wh = nI 0 then nI (gMi x) else if wh = nI 1 then nI (gMo x) else if wh = nI 2 then nI (gMw x) else if wh = nI 3 then nI (cntT (gTr x) 0 (gMw x)) else if wh = nI 4 then nI (msO (gLo x) (gHi x) (gTr x) (gMi x + gMo x) 0 (gMw x)) else -1
theorem msI_z (lo hi th : Nat → Int32) (w : Nat) (h : th w = 0) : ∀ n i : Nat, msI lo hi th w i n = 0
  | 0, _ => rfl
  | n + 1, i => by rw [msI, if_neg (fun q => q.1 h), msI_z lo hi th w h n (i + 1)]
theorem iw_X4_start_X4 : ∀ w ∈ wsX40, w ∈ wsX4_start := fun w h => List.mem_cons_of_mem _ (List.mem_append_right _ h)
theorem fm_X4_start_46 : Cond.fieldLink RX4 46 "EdgeBenchModel" "thrown" "I" ∈ wsX4_start := List.mem_of_getElem? (i := 1) rfl
theorem hdn_X4_isIn : yX4_isIn.cls ≠ "java/lang/invoke/MethodHandle" ∧ yX4_isIn.cls ≠ "java/lang/invoke/VarHandle" ∧ (parseMethodDescriptor yX4_isIn.desc).map (fun d => d.parameters.length) = some 3 := by decide +kernel
theorem cw_X4_start_52_0_0 {R : Room} {s : State} {args : Array Value} (hts : ∀ w ∈ wsX4_start, w.before args s = true) (hN : nsW s) (hR : 0 + 1 ≤ R.frames ∧ 8 + (3 + 11) + 0 ≤ R.locals) : CallB R s args RX4 52 yX4_isIn cX4_isIn 3 (some .boolean) wsX4_isIn { frames := 0, cells := 0, slots := 0, locals := 0 } 0 0 3 ∧ (Cond.static yX4_isIn).before args s = true := va_cwS 3 hts gX4_start_X4_isIn rfl rfl rfl hdn_X4_isIn hR
theorem fm_X4_start_9 : Cond.fieldLink RX4 9 "EdgeBenchModel" "ins" "I" ∈ wsX4_start := List.mem_of_getElem? (i := 2) rfl
theorem fm_X4_start_13 : Cond.fieldLink RX4 13 "EdgeBenchModel" "outs" "I" ∈ wsX4_start := List.mem_of_getElem? (i := 3) rfl
theorem fm_X4_start_49 : Cond.fieldLink RX4 49 "EdgeBenchModel" "works" "I" ∈ wsX4_start := List.mem_of_getElem? (i := 4) rfl
set_option maxHeartbeats 20000000 in
set_option maxRecDepth 100000 in
theorem c_X4_start (l : Launch) (g : Gt) (md : Nat → Nat) (x : MS) (xa : Int32) (xb : Int32) (hmb : mBen x) : CI l yX4_start wsX4_start { frames := 1, cells := 0, slots := 0, locals := 22 } g [.ref (md 0), .int (xa), .int (xb)] [(md 0, .inr (4, [.int (gXt x), .int (nI (gMi x)), .int (nI (gMo x)), .int (nI (gMw x)), .ref (md 1), .ref (md 2), .ref (md 3), .int (nI (gNi x)), .int (nI (gNo x)), .ref (md 4), .ref (md 5), .ref (md 6), .int (nI (gNs x)), .ref (md 7), .ref (md 8), .int (nI (gNb x)), .int (nI (gWd x)), .ref (md 9), .long (gTp x), .long (gBl x), .long (gWt x), .long (gWb x)])), (md 1, aI g 48 (gLo x)), (md 2, aI g 48 (gHi x)), (md 3, aZ g 12 (gTr x)), (md 4, aI g 48 (gNu x)), (md 5, aZ g 12 (gAm x)), (md 6, aJ g 13000 (gSd x)), (md 7, aJ g 85 (gBd x)), (md 8, aJ g 5 (gWy x)), (md 9, aI g 5 (fun j => nI ((gCh x) j)))] (fun zr (zu : MS) => staM x zu xa xb zr) (fun (zu : MS) => [(md 0, .inr (4, [.int (gXt zu), .int (nI (gMi zu)), .int (nI (gMo zu)), .int (nI (gMw zu)), .ref (md 1), .ref (md 2), .ref (md 3), .int (nI (gNi zu)), .int (nI (gNo zu)), .ref (md 4), .ref (md 5), .ref (md 6), .int (nI (gNs zu)), .ref (md 7), .ref (md 8), .int (nI (gNb zu)), .int (nI (gWd zu)), .ref (md 9), .long (gTp zu), .long (gBl zu), .long (gWt zu), .long (gWb zu)])), (md 1, aI g 48 (gLo zu)), (md 2, aI g 48 (gHi zu)), (md 3, aZ g 12 (gTr zu)), (md 4, aI g 48 (gNu zu)), (md 5, aZ g 12 (gAm zu)), (md 6, aJ g 13000 (gSd zu)), (md 7, aJ g 85 (gBd zu)), (md 8, aJ g 5 (gWy zu)), (md 9, aI g 5 (fun j => nI ((gCh zu) j)))]) 0 0 := by
  refine ent_z (cc := cX4_start) (maxL := 3) (by decide) rfl (Nat.le_of_ble_eq_true rfl) ?_
  intro p e s m below meth c A args Q hE ret ls hl
  obtain ⟨hx, hb, hml, hown, hts, hnm, hA, hP, hD, hK, hN⟩ := hE
  have hS : va_S A s.heap s.heap [] := va_S.rf
  have hl : lv_has ls 3 [(0, .ref (md 0)), (1, .int (xa)), (2, .int (xb))] := hl
  have hP : va_P g.1 vwCl [(md 0, .inr (4, [.int (gXt x), .int (nI (gMi x)), .int (nI (gMo x)), .int (nI (gMw x)), .ref (md 1), .ref (md 2), .ref (md 3), .int (nI (gNi x)), .int (nI (gNo x)), .ref (md 4), .ref (md 5), .ref (md 6), .int (nI (gNs x)), .ref (md 7), .ref (md 8), .int (nI (gNb x)), .int (nI (gWd x)), .ref (md 9), .long (gTp x), .long (gBl x), .long (gWt x), .long (gWb x)])), (md 1, aI g 48 (gLo x)), (md 2, aI g 48 (gHi x)), (md 3, aZ g 12 (gTr x)), (md 4, aI g 48 (gNu x)), (md 5, aZ g 12 (gAm x)), (md 6, aJ g 13000 (gSd x)), (md 7, aJ g 85 (gBd x)), (md 8, aJ g 5 (gWy x)), (md 9, aI g 5 (fun j => nI ((gCh x) j)))] s.heap := hP
  obtain ⟨⟨hmi1, hmi⟩, ⟨hmo1, hmo⟩, hmw, htr⟩ := id hmb
  refine lv_aload_n hx hb dX4_start_0 rfl (lv_at hl 0 rfl) ?_
  refine lv_iconst (v := nI 0) hx hb dX4_start_1 (by decide) ?_
  refine k_put hx hb hts hown hK hP hD hS iw_X4_start_X4 rfl tyX4 tyX4_ok nmX4 0 0 fm_X4_start_46 (by decide) rfl rfl rfl rfl rfl (Nat.le_of_ble_eq_true rfl) dX4_start_2 (fun H locs hP hD hS => ?_)
  have hP : va_P g.1 vwCl [(md 0, .inr (4, [.int (nI 0), .int (nI (gMi x)), .int (nI (gMo x)), .int (nI (gMw x)), .ref (md 1), .ref (md 2), .ref (md 3), .int (nI (gNi x)), .int (nI (gNo x)), .ref (md 4), .ref (md 5), .ref (md 6), .int (nI (gNs x)), .ref (md 7), .ref (md 8), .int (nI (gNb x)), .int (nI (gWd x)), .ref (md 9), .long (gTp x), .long (gBl x), .long (gWt x), .long (gWb x)])), (md 1, aI g 48 (gLo x)), (md 2, aI g 48 (gHi x)), (md 3, aZ g 12 (gTr x)), (md 4, aI g 48 (gNu x)), (md 5, aZ g 12 (gAm x)), (md 6, aJ g 13000 (gSd x)), (md 7, aJ g 85 (gBd x)), (md 8, aJ g 5 (gWy x)), (md 9, aI g 5 (fun j => nI ((gCh x) j)))] H := hP
  have hD : va_D A [(md 0, .inr (4, [.int (nI 0), .int (nI (gMi x)), .int (nI (gMo x)), .int (nI (gMw x)), .ref (md 1), .ref (md 2), .ref (md 3), .int (nI (gNi x)), .int (nI (gNo x)), .ref (md 4), .ref (md 5), .ref (md 6), .int (nI (gNs x)), .ref (md 7), .ref (md 8), .int (nI (gNb x)), .int (nI (gWd x)), .ref (md 9), .long (gTp x), .long (gBl x), .long (gWt x), .long (gWb x)])), (md 1, aI g 48 (gLo x)), (md 2, aI g 48 (gHi x)), (md 3, aZ g 12 (gTr x)), (md 4, aI g 48 (gNu x)), (md 5, aZ g 12 (gAm x)), (md 6, aJ g 13000 (gSd x)), (md 7, aJ g 85 (gBd x)), (md 8, aJ g 5 (gWy x)), (md 9, aI g 5 (fun j => nI ((gCh x) j)))] := hD
  refine lv_iload_n hx hb dX4_start_5 rfl (lv_at hl 1 rfl) ?_
  refine lv_iconst (v := nI 1) hx hb dX4_start_6 (by decide) ?_
  refine lv_iconst (v := nI 2) hx hb dX4_start_7 (by decide) ?_
  refine go_i (wc := []) (wr := [(md 0, .inr (4, [.int (nI 0), .int (nI (gMi x)), .int (nI (gMo x)), .int (nI (gMw x)), .ref (md 1), .ref (md 2), .ref (md 3), .int (nI (gNi x)), .int (nI (gNo x)), .ref (md 4), .ref (md 5), .ref (md 6), .int (nI (gNs x)), .ref (md 7), .ref (md 8), .int (nI (gNb x)), .int (nI (gWd x)), .ref (md 9), .long (gTp x), .long (gBl x), .long (gWt x), .long (gWb x)])), (md 1, aI g 48 (gLo x)), (md 2, aI g 48 (gHi x)), (md 3, aZ g 12 (gTr x)), (md 4, aI g 48 (gNu x)), (md 5, aZ g 12 (gAm x)), (md 6, aJ g 13000 (gSd x)), (md 7, aJ g 85 (gBd x)), (md 8, aJ g 5 (gWy x)), (md 9, aI g 5 (fun j => nI ((gCh x) j)))]) hP hD hS hA [] [0, 1, 2, 3, 4, 5, 6, 7, 8, 9] rfl rfl rfl rfl (by decide) (fun hPc hDc => rn_S (As := [.int (xa), .int (nI 1), .int (nI 2)]) (rest := []) ⟨hx, hb, hml, hown, hts⟩ ((c_X4_isIn l g xa (nI 1) (nI 2) ) _) (cw_X4_start_52_0_0 hts hN ⟨Nat.le_of_ble_eq_true rfl, Nat.le_of_ble_eq_true rfl⟩) hK hN hPc hDc rfl rfl hl.1 (Nat.le_of_ble_eq_true rfl) dX4_start_8 ⟨Nat.le_of_ble_eq_true rfl, Nat.le_of_ble_eq_true rfl⟩) ?_
  intro r_1 u_2 H locs h_3 hP hD hS
  have hP : va_P g.1 vwCl [(md 0, .inr (4, [.int (nI 0), .int (nI (gMi x)), .int (nI (gMo x)), .int (nI (gMw x)), .ref (md 1), .ref (md 2), .ref (md 3), .int (nI (gNi x)), .int (nI (gNo x)), .ref (md 4), .ref (md 5), .ref (md 6), .int (nI (gNs x)), .ref (md 7), .ref (md 8), .int (nI (gNb x)), .int (nI (gWd x)), .ref (md 9), .long (gTp x), .long (gBl x), .long (gWt x), .long (gWb x)])), (md 1, aI g 48 (gLo x)), (md 2, aI g 48 (gHi x)), (md 3, aZ g 12 (gTr x)), (md 4, aI g 48 (gNu x)), (md 5, aZ g 12 (gAm x)), (md 6, aJ g 13000 (gSd x)), (md 7, aJ g 85 (gBd x)), (md 8, aJ g 5 (gWy x)), (md 9, aI g 5 (fun j => nI ((gCh x) j)))] H := hP.sub [0, 1, 2, 3, 4, 5, 6, 7, 8, 9] rfl
  have hD : va_D A [(md 0, .inr (4, [.int (nI 0), .int (nI (gMi x)), .int (nI (gMo x)), .int (nI (gMw x)), .ref (md 1), .ref (md 2), .ref (md 3), .int (nI (gNi x)), .int (nI (gNo x)), .ref (md 4), .ref (md 5), .ref (md 6), .int (nI (gNs x)), .ref (md 7), .ref (md 8), .int (nI (gNb x)), .int (nI (gWd x)), .ref (md 9), .long (gTp x), .long (gBl x), .long (gWt x), .long (gWb x)])), (md 1, aI g 48 (gLo x)), (md 2, aI g 48 (gHi x)), (md 3, aZ g 12 (gTr x)), (md 4, aI g 48 (gNu x)), (md 5, aZ g 12 (gAm x)), (md 6, aJ g 13000 (gSd x)), (md 7, aJ g 85 (gBd x)), (md 8, aJ g 5 (gWy x)), (md 9, aI g 5 (fun j => nI ((gCh x) j)))] := hD.sub [0, 1, 2, 3, 4, 5, 6, 7, 8, 9] rfl rfl
  have h_3 : r_1 = bI (isI xa (nI 1) (nI 2)) := h_3
  subst h_3
  refine lv_if_eq (tgt := 23) hx hb dX4_start_11 (by decide) (fun c_4 => ?_) (fun c_4 => ?_)
  · skip
    have hno : ¬ (isI xa (nI 1) (nI 2) = true ∧ isI xb (nI 1) (nI 2) = true) := fun q => absurd (bI_eq0.mp c_4) (by rw [q.1]; decide)
    refine lv_iconst (v := nI 0) hx hb dX4_start_23 (by decide) ?_
    exact ret dX4_start_24 ((nI 0, gMi x, gMo x, gMw x, gLo x, gHi x, gTr x, gNi x, gNo x, gNu x, gAm x, gSd x, gNs x, gBd x, gWy x, gNb x, gWd x, (gCh x), gTp x, gBl x, gWt x, gWb x)) (Or.inr ⟨hno, rfl, ⟨rfl, rfl, rfl, rfl, rfl, rfl⟩⟩) (by decide) hP hD hS
  · skip
    have h1 := bI_ne0.mp c_4
    refine lv_iload_n hx hb dX4_start_14 rfl (lv_at hl 2 rfl) ?_
    refine lv_iconst (v := nI 1) hx hb dX4_start_15 (by decide) ?_
    refine lv_iconst (v := nI 2) hx hb dX4_start_16 (by decide) ?_
    refine go_i (wc := []) (wr := [(md 0, .inr (4, [.int (nI 0), .int (nI (gMi x)), .int (nI (gMo x)), .int (nI (gMw x)), .ref (md 1), .ref (md 2), .ref (md 3), .int (nI (gNi x)), .int (nI (gNo x)), .ref (md 4), .ref (md 5), .ref (md 6), .int (nI (gNs x)), .ref (md 7), .ref (md 8), .int (nI (gNb x)), .int (nI (gWd x)), .ref (md 9), .long (gTp x), .long (gBl x), .long (gWt x), .long (gWb x)])), (md 1, aI g 48 (gLo x)), (md 2, aI g 48 (gHi x)), (md 3, aZ g 12 (gTr x)), (md 4, aI g 48 (gNu x)), (md 5, aZ g 12 (gAm x)), (md 6, aJ g 13000 (gSd x)), (md 7, aJ g 85 (gBd x)), (md 8, aJ g 5 (gWy x)), (md 9, aI g 5 (fun j => nI ((gCh x) j)))]) hP hD hS hA [] [0, 1, 2, 3, 4, 5, 6, 7, 8, 9] rfl rfl rfl rfl (by decide) (fun hPc hDc => rn_S (As := [.int (xb), .int (nI 1), .int (nI 2)]) (rest := []) ⟨hx, hb, hml, hown, hts⟩ ((c_X4_isIn l g xb (nI 1) (nI 2) ) _) (cw_X4_start_52_0_0 hts hN ⟨Nat.le_of_ble_eq_true rfl, Nat.le_of_ble_eq_true rfl⟩) hK hN hPc hDc rfl rfl hl.1 (Nat.le_of_ble_eq_true rfl) dX4_start_17 ⟨Nat.le_of_ble_eq_true rfl, Nat.le_of_ble_eq_true rfl⟩) ?_
    intro r_5 u_6 H locs h_7 hP hD hS
    have hP : va_P g.1 vwCl [(md 0, .inr (4, [.int (nI 0), .int (nI (gMi x)), .int (nI (gMo x)), .int (nI (gMw x)), .ref (md 1), .ref (md 2), .ref (md 3), .int (nI (gNi x)), .int (nI (gNo x)), .ref (md 4), .ref (md 5), .ref (md 6), .int (nI (gNs x)), .ref (md 7), .ref (md 8), .int (nI (gNb x)), .int (nI (gWd x)), .ref (md 9), .long (gTp x), .long (gBl x), .long (gWt x), .long (gWb x)])), (md 1, aI g 48 (gLo x)), (md 2, aI g 48 (gHi x)), (md 3, aZ g 12 (gTr x)), (md 4, aI g 48 (gNu x)), (md 5, aZ g 12 (gAm x)), (md 6, aJ g 13000 (gSd x)), (md 7, aJ g 85 (gBd x)), (md 8, aJ g 5 (gWy x)), (md 9, aI g 5 (fun j => nI ((gCh x) j)))] H := hP.sub [0, 1, 2, 3, 4, 5, 6, 7, 8, 9] rfl
    have hD : va_D A [(md 0, .inr (4, [.int (nI 0), .int (nI (gMi x)), .int (nI (gMo x)), .int (nI (gMw x)), .ref (md 1), .ref (md 2), .ref (md 3), .int (nI (gNi x)), .int (nI (gNo x)), .ref (md 4), .ref (md 5), .ref (md 6), .int (nI (gNs x)), .ref (md 7), .ref (md 8), .int (nI (gNb x)), .int (nI (gWd x)), .ref (md 9), .long (gTp x), .long (gBl x), .long (gWt x), .long (gWb x)])), (md 1, aI g 48 (gLo x)), (md 2, aI g 48 (gHi x)), (md 3, aZ g 12 (gTr x)), (md 4, aI g 48 (gNu x)), (md 5, aZ g 12 (gAm x)), (md 6, aJ g 13000 (gSd x)), (md 7, aJ g 85 (gBd x)), (md 8, aJ g 5 (gWy x)), (md 9, aI g 5 (fun j => nI ((gCh x) j)))] := hD.sub [0, 1, 2, 3, 4, 5, 6, 7, 8, 9] rfl rfl
    have h_7 : r_5 = bI (isI xb (nI 1) (nI 2)) := h_7
    subst h_7
    refine lv_if_ne (tgt := 25) hx hb dX4_start_20 (by decide) (fun c_8 => ?_) (fun c_8 => ?_)
    · skip
      have h2 := bI_ne0.mp c_8
      obtain ⟨a, ha, ha1, ha2, ha31⟩ := isI_get (by decide) (by decide) h1
      obtain ⟨b, hb0, hb1, hb2, hb31⟩ := isI_get (by decide) (by decide) h2
      subst ha
      subst hb0
      refine lv_aload_n hx hb dX4_start_25 rfl (lv_at hl 0 rfl) ?_
      refine lv_iload_n hx hb dX4_start_26 rfl (lv_at hl 1 rfl) ?_
      refine k_put hx hb hts hown hK hP hD hS iw_X4_start_X4 rfl tyX4 tyX4_ok nmX4 0 1 fm_X4_start_9 (by decide) rfl rfl rfl rfl rfl (Nat.le_of_ble_eq_true rfl) dX4_start_27 (fun H locs hP hD hS => ?_)
      have hP : va_P g.1 vwCl [(md 0, .inr (4, [.int (nI 0), .int (nI a), .int (nI (gMo x)), .int (nI (gMw x)), .ref (md 1), .ref (md 2), .ref (md 3), .int (nI (gNi x)), .int (nI (gNo x)), .ref (md 4), .ref (md 5), .ref (md 6), .int (nI (gNs x)), .ref (md 7), .ref (md 8), .int (nI (gNb x)), .int (nI (gWd x)), .ref (md 9), .long (gTp x), .long (gBl x), .long (gWt x), .long (gWb x)])), (md 1, aI g 48 (gLo x)), (md 2, aI g 48 (gHi x)), (md 3, aZ g 12 (gTr x)), (md 4, aI g 48 (gNu x)), (md 5, aZ g 12 (gAm x)), (md 6, aJ g 13000 (gSd x)), (md 7, aJ g 85 (gBd x)), (md 8, aJ g 5 (gWy x)), (md 9, aI g 5 (fun j => nI ((gCh x) j)))] H := hP
      have hD : va_D A [(md 0, .inr (4, [.int (nI 0), .int (nI a), .int (nI (gMo x)), .int (nI (gMw x)), .ref (md 1), .ref (md 2), .ref (md 3), .int (nI (gNi x)), .int (nI (gNo x)), .ref (md 4), .ref (md 5), .ref (md 6), .int (nI (gNs x)), .ref (md 7), .ref (md 8), .int (nI (gNb x)), .int (nI (gWd x)), .ref (md 9), .long (gTp x), .long (gBl x), .long (gWt x), .long (gWb x)])), (md 1, aI g 48 (gLo x)), (md 2, aI g 48 (gHi x)), (md 3, aZ g 12 (gTr x)), (md 4, aI g 48 (gNu x)), (md 5, aZ g 12 (gAm x)), (md 6, aJ g 13000 (gSd x)), (md 7, aJ g 85 (gBd x)), (md 8, aJ g 5 (gWy x)), (md 9, aI g 5 (fun j => nI ((gCh x) j)))] := hD
      refine lv_aload_n hx hb dX4_start_30 rfl (lv_at hl 0 rfl) ?_
      refine lv_iload_n hx hb dX4_start_31 rfl (lv_at hl 2 rfl) ?_
      refine k_put hx hb hts hown hK hP hD hS iw_X4_start_X4 rfl tyX4 tyX4_ok nmX4 0 2 fm_X4_start_13 (by decide) rfl rfl rfl rfl rfl (Nat.le_of_ble_eq_true rfl) dX4_start_32 (fun H locs hP hD hS => ?_)
      have hP : va_P g.1 vwCl [(md 0, .inr (4, [.int (nI 0), .int (nI a), .int (nI b), .int (nI (gMw x)), .ref (md 1), .ref (md 2), .ref (md 3), .int (nI (gNi x)), .int (nI (gNo x)), .ref (md 4), .ref (md 5), .ref (md 6), .int (nI (gNs x)), .ref (md 7), .ref (md 8), .int (nI (gNb x)), .int (nI (gWd x)), .ref (md 9), .long (gTp x), .long (gBl x), .long (gWt x), .long (gWb x)])), (md 1, aI g 48 (gLo x)), (md 2, aI g 48 (gHi x)), (md 3, aZ g 12 (gTr x)), (md 4, aI g 48 (gNu x)), (md 5, aZ g 12 (gAm x)), (md 6, aJ g 13000 (gSd x)), (md 7, aJ g 85 (gBd x)), (md 8, aJ g 5 (gWy x)), (md 9, aI g 5 (fun j => nI ((gCh x) j)))] H := hP
      have hD : va_D A [(md 0, .inr (4, [.int (nI 0), .int (nI a), .int (nI b), .int (nI (gMw x)), .ref (md 1), .ref (md 2), .ref (md 3), .int (nI (gNi x)), .int (nI (gNo x)), .ref (md 4), .ref (md 5), .ref (md 6), .int (nI (gNs x)), .ref (md 7), .ref (md 8), .int (nI (gNb x)), .int (nI (gWd x)), .ref (md 9), .long (gTp x), .long (gBl x), .long (gWt x), .long (gWb x)])), (md 1, aI g 48 (gLo x)), (md 2, aI g 48 (gHi x)), (md 3, aZ g 12 (gTr x)), (md 4, aI g 48 (gNu x)), (md 5, aZ g 12 (gAm x)), (md 6, aJ g 13000 (gSd x)), (md 7, aJ g 85 (gBd x)), (md 8, aJ g 5 (gWy x)), (md 9, aI g 5 (fun j => nI ((gCh x) j)))] := hD
      refine lv_aload_n hx hb dX4_start_35 rfl (lv_at hl 0 rfl) ?_
      refine lv_iconst (v := nI 0) hx hb dX4_start_36 (by decide) ?_
      refine k_put hx hb hts hown hK hP hD hS iw_X4_start_X4 rfl tyX4 tyX4_ok nmX4 0 3 fm_X4_start_49 (by decide) rfl rfl rfl rfl rfl (Nat.le_of_ble_eq_true rfl) dX4_start_37 (fun H locs hP hD hS => ?_)
      have hP : va_P g.1 vwCl [(md 0, .inr (4, [.int (nI 0), .int (nI a), .int (nI b), .int (nI 0), .ref (md 1), .ref (md 2), .ref (md 3), .int (nI (gNi x)), .int (nI (gNo x)), .ref (md 4), .ref (md 5), .ref (md 6), .int (nI (gNs x)), .ref (md 7), .ref (md 8), .int (nI (gNb x)), .int (nI (gWd x)), .ref (md 9), .long (gTp x), .long (gBl x), .long (gWt x), .long (gWb x)])), (md 1, aI g 48 (gLo x)), (md 2, aI g 48 (gHi x)), (md 3, aZ g 12 (gTr x)), (md 4, aI g 48 (gNu x)), (md 5, aZ g 12 (gAm x)), (md 6, aJ g 13000 (gSd x)), (md 7, aJ g 85 (gBd x)), (md 8, aJ g 5 (gWy x)), (md 9, aI g 5 (fun j => nI ((gCh x) j)))] H := hP
      have hD : va_D A [(md 0, .inr (4, [.int (nI 0), .int (nI a), .int (nI b), .int (nI 0), .ref (md 1), .ref (md 2), .ref (md 3), .int (nI (gNi x)), .int (nI (gNo x)), .ref (md 4), .ref (md 5), .ref (md 6), .int (nI (gNs x)), .ref (md 7), .ref (md 8), .int (nI (gNb x)), .int (nI (gWd x)), .ref (md 9), .long (gTp x), .long (gBl x), .long (gWt x), .long (gWb x)])), (md 1, aI g 48 (gLo x)), (md 2, aI g 48 (gHi x)), (md 3, aZ g 12 (gTr x)), (md 4, aI g 48 (gNu x)), (md 5, aZ g 12 (gAm x)), (md 6, aJ g 13000 (gSd x)), (md 7, aJ g 85 (gBd x)), (md 8, aJ g 5 (gWy x)), (md 9, aI g 5 (fun j => nI ((gCh x) j)))] := hD
      refine lv_iconst (v := nI 1) hx hb dX4_start_40 (by decide) ?_
      exact ret dX4_start_41 ((nI 0, a, b, 0, gLo x, gHi x, gTr x, gNi x, gNo x, gNu x, gAm x, gSd x, gNs x, gBd x, gWy x, gNb x, gWd x, (gCh x), gTp x, gBl x, gWt x, gWb x)) (Or.inl ⟨⟨h1, h2⟩, rfl, by rw [wN_n ha31, wN_n hb31]; exact ⟨rfl, rfl, rfl, rfl, rfl, rfl⟩⟩) (by decide) hP hD hS
    · skip
      have hno : ¬ (isI xa (nI 1) (nI 2) = true ∧ isI xb (nI 1) (nI 2) = true) := fun q => absurd (bI_eq0.mp c_8) (by rw [q.2]; decide)
      refine lv_iconst (v := nI 0) hx hb dX4_start_23 (by decide) ?_
      exact ret dX4_start_24 ((nI 0, gMi x, gMo x, gMw x, gLo x, gHi x, gTr x, gNi x, gNo x, gNu x, gAm x, gSd x, gNs x, gBd x, gWy x, gNb x, gWd x, (gCh x), gTp x, gBl x, gWt x, gWb x)) (Or.inr ⟨hno, rfl, ⟨rfl, rfl, rfl, rfl, rfl, rfl⟩⟩) (by decide) hP hD hS
theorem iw_X4_set_X4 : ∀ w ∈ wsX40, w ∈ wsX4_set := fun w h => List.mem_cons_of_mem _ (List.mem_append_right _ h)
theorem fm_X4_set_46 : Cond.fieldLink RX4 46 "EdgeBenchModel" "thrown" "I" ∈ wsX4_set := List.mem_of_getElem? (i := 1) rfl
theorem hdn_X4_isWork : yX4_isWork.cls ≠ "java/lang/invoke/MethodHandle" ∧ yX4_isWork.cls ≠ "java/lang/invoke/VarHandle" ∧ (parseMethodDescriptor yX4_isWork.desc).map (fun d => d.parameters.length) = some 1 := by decide +kernel
theorem cw_X4_set_60_0_0 {R : Room} {s : State} {args : Array Value} (hts : ∀ w ∈ wsX4_set, w.before args s = true) (hN : nsW s) (hR : 0 + 1 ≤ R.frames ∧ 8 + (2 + 11) + 0 ≤ R.locals) : CallW R s args RX4 RX4 60 yX4_isWork cX4_isWork 2 (some .boolean) wsX4_isWork { frames := 0, cells := 0, slots := 0, locals := 0 } 0 0 1 := cwV 1 hts gX4_set_X4_isWork rfl rfl rfl ⟨rfl, hdn_X4_isWork⟩ hR
theorem fm_X4_set_23 : Cond.fieldLink RX4 23 "EdgeBenchModel" "there" "[Z" ∈ wsX4_set := List.mem_of_getElem? (i := 2) rfl
set_option maxHeartbeats 20000000 in
set_option maxRecDepth 100000 in
theorem c_X4_set (l : Launch) (g : Gt) (md : Nat → Nat) (x : MS) (wk : Int32) (bv : Int32) (hmb : mBen x) (hbv : bv = 0 ∨ bv = 1) : CI l yX4_set wsX4_set { frames := 1, cells := 0, slots := 0, locals := 21 } g [.ref (md 0), .int (wk), .int (bv)] [(md 0, .inr (4, [.int (gXt x), .int (nI (gMi x)), .int (nI (gMo x)), .int (nI (gMw x)), .ref (md 1), .ref (md 2), .ref (md 3), .int (nI (gNi x)), .int (nI (gNo x)), .ref (md 4), .ref (md 5), .ref (md 6), .int (nI (gNs x)), .ref (md 7), .ref (md 8), .int (nI (gNb x)), .int (nI (gWd x)), .ref (md 9), .long (gTp x), .long (gBl x), .long (gWt x), .long (gWb x)])), (md 1, aI g 48 (gLo x)), (md 2, aI g 48 (gHi x)), (md 3, aZ g 12 (gTr x)), (md 4, aI g 48 (gNu x)), (md 5, aZ g 12 (gAm x)), (md 6, aJ g 13000 (gSd x)), (md 7, aJ g 85 (gBd x)), (md 8, aJ g 5 (gWy x)), (md 9, aI g 5 (fun j => nI ((gCh x) j)))] (fun zr (zu : MS) => setM x zu wk bv zr) (fun (zu : MS) => [(md 0, .inr (4, [.int (gXt zu), .int (nI (gMi zu)), .int (nI (gMo zu)), .int (nI (gMw zu)), .ref (md 1), .ref (md 2), .ref (md 3), .int (nI (gNi zu)), .int (nI (gNo zu)), .ref (md 4), .ref (md 5), .ref (md 6), .int (nI (gNs zu)), .ref (md 7), .ref (md 8), .int (nI (gNb zu)), .int (nI (gWd zu)), .ref (md 9), .long (gTp zu), .long (gBl zu), .long (gWt zu), .long (gWb zu)])), (md 1, aI g 48 (gLo zu)), (md 2, aI g 48 (gHi zu)), (md 3, aZ g 12 (gTr zu)), (md 4, aI g 48 (gNu zu)), (md 5, aZ g 12 (gAm zu)), (md 6, aJ g 13000 (gSd zu)), (md 7, aJ g 85 (gBd zu)), (md 8, aJ g 5 (gWy zu)), (md 9, aI g 5 (fun j => nI ((gCh zu) j)))]) 0 0 := by
  refine ent_z (cc := cX4_set) (maxL := 3) (by decide) rfl (Nat.le_of_ble_eq_true rfl) ?_
  intro p e s m below meth c A args Q hE ret ls hl
  obtain ⟨hx, hb, hml, hown, hts, hnm, hA, hP, hD, hK, hN⟩ := hE
  have hS : va_S A s.heap s.heap [] := va_S.rf
  have hl : lv_has ls 3 [(0, .ref (md 0)), (1, .int (wk)), (2, .int (bv))] := hl
  have hP : va_P g.1 vwCl [(md 0, .inr (4, [.int (gXt x), .int (nI (gMi x)), .int (nI (gMo x)), .int (nI (gMw x)), .ref (md 1), .ref (md 2), .ref (md 3), .int (nI (gNi x)), .int (nI (gNo x)), .ref (md 4), .ref (md 5), .ref (md 6), .int (nI (gNs x)), .ref (md 7), .ref (md 8), .int (nI (gNb x)), .int (nI (gWd x)), .ref (md 9), .long (gTp x), .long (gBl x), .long (gWt x), .long (gWb x)])), (md 1, aI g 48 (gLo x)), (md 2, aI g 48 (gHi x)), (md 3, aZ g 12 (gTr x)), (md 4, aI g 48 (gNu x)), (md 5, aZ g 12 (gAm x)), (md 6, aJ g 13000 (gSd x)), (md 7, aJ g 85 (gBd x)), (md 8, aJ g 5 (gWy x)), (md 9, aI g 5 (fun j => nI ((gCh x) j)))] s.heap := hP
  obtain ⟨⟨hmi1, hmi⟩, ⟨hmo1, hmo⟩, hmw, htr⟩ := id hmb
  refine lv_aload_n hx hb dX4_set_0 rfl (lv_at hl 0 rfl) ?_
  refine lv_iconst (v := nI 0) hx hb dX4_set_1 (by decide) ?_
  refine k_put hx hb hts hown hK hP hD hS iw_X4_set_X4 rfl tyX4 tyX4_ok nmX4 0 0 fm_X4_set_46 (by decide) rfl rfl rfl rfl rfl (Nat.le_of_ble_eq_true rfl) dX4_set_2 (fun H locs hP hD hS => ?_)
  have hP : va_P g.1 vwCl [(md 0, .inr (4, [.int (nI 0), .int (nI (gMi x)), .int (nI (gMo x)), .int (nI (gMw x)), .ref (md 1), .ref (md 2), .ref (md 3), .int (nI (gNi x)), .int (nI (gNo x)), .ref (md 4), .ref (md 5), .ref (md 6), .int (nI (gNs x)), .ref (md 7), .ref (md 8), .int (nI (gNb x)), .int (nI (gWd x)), .ref (md 9), .long (gTp x), .long (gBl x), .long (gWt x), .long (gWb x)])), (md 1, aI g 48 (gLo x)), (md 2, aI g 48 (gHi x)), (md 3, aZ g 12 (gTr x)), (md 4, aI g 48 (gNu x)), (md 5, aZ g 12 (gAm x)), (md 6, aJ g 13000 (gSd x)), (md 7, aJ g 85 (gBd x)), (md 8, aJ g 5 (gWy x)), (md 9, aI g 5 (fun j => nI ((gCh x) j)))] H := hP
  have hD : va_D A [(md 0, .inr (4, [.int (nI 0), .int (nI (gMi x)), .int (nI (gMo x)), .int (nI (gMw x)), .ref (md 1), .ref (md 2), .ref (md 3), .int (nI (gNi x)), .int (nI (gNo x)), .ref (md 4), .ref (md 5), .ref (md 6), .int (nI (gNs x)), .ref (md 7), .ref (md 8), .int (nI (gNb x)), .int (nI (gWd x)), .ref (md 9), .long (gTp x), .long (gBl x), .long (gWt x), .long (gWb x)])), (md 1, aI g 48 (gLo x)), (md 2, aI g 48 (gHi x)), (md 3, aZ g 12 (gTr x)), (md 4, aI g 48 (gNu x)), (md 5, aZ g 12 (gAm x)), (md 6, aJ g 13000 (gSd x)), (md 7, aJ g 85 (gBd x)), (md 8, aJ g 5 (gWy x)), (md 9, aI g 5 (fun j => nI ((gCh x) j)))] := hD
  refine lv_aload_n hx hb dX4_set_5 rfl (lv_at hl 0 rfl) ?_
  refine lv_iload_n hx hb dX4_set_6 rfl (lv_at hl 1 rfl) ?_
  refine go_i (wc := [(md 0, .inr (4, [.int (nI 0), .int (nI (gMi x)), .int (nI (gMo x)), .int (nI (gMw x)), .ref (md 1), .ref (md 2), .ref (md 3), .int (nI (gNi x)), .int (nI (gNo x)), .ref (md 4), .ref (md 5), .ref (md 6), .int (nI (gNs x)), .ref (md 7), .ref (md 8), .int (nI (gNb x)), .int (nI (gWd x)), .ref (md 9), .long (gTp x), .long (gBl x), .long (gWt x), .long (gWb x)]))]) (wr := [(md 1, aI g 48 (gLo x)), (md 2, aI g 48 (gHi x)), (md 3, aZ g 12 (gTr x)), (md 4, aI g 48 (gNu x)), (md 5, aZ g 12 (gAm x)), (md 6, aJ g 13000 (gSd x)), (md 7, aJ g 85 (gBd x)), (md 8, aJ g 5 (gWy x)), (md 9, aI g 5 (fun j => nI ((gCh x) j)))]) hP hD hS hA [0] [1, 2, 3, 4, 5, 6, 7, 8, 9] rfl rfl rfl rfl (by decide) (fun hPc hDc => rn_V (As := [.int (wk)]) (rest := []) ⟨hx, hb, hml, hown, hts⟩ ((c_X4_isWork l g md (nI 0) (gMi x) (gMo x) (gMw x) (gNi x) (gNo x) (gNs x) (gNb x) (gWd x) (gTp x) (gBl x) (gWt x) (gWb x) wk (by omega)) _) (cw_X4_set_60_0_0 hts hN ⟨Nat.le_of_ble_eq_true rfl, Nat.le_of_ble_eq_true rfl⟩) hK hN hPc hDc 0 rfl rfl rfl rfl hl.1 (Nat.le_of_ble_eq_true rfl) dX4_set_7 ⟨Nat.le_of_ble_eq_true rfl, Nat.le_of_ble_eq_true rfl⟩) ?_
  intro r_1 u_2 H locs h_3 hP hD hS
  have hP : va_P g.1 vwCl [(md 0, .inr (4, [.int (nI 0), .int (nI (gMi x)), .int (nI (gMo x)), .int (nI (gMw x)), .ref (md 1), .ref (md 2), .ref (md 3), .int (nI (gNi x)), .int (nI (gNo x)), .ref (md 4), .ref (md 5), .ref (md 6), .int (nI (gNs x)), .ref (md 7), .ref (md 8), .int (nI (gNb x)), .int (nI (gWd x)), .ref (md 9), .long (gTp x), .long (gBl x), .long (gWt x), .long (gWb x)])), (md 1, aI g 48 (gLo x)), (md 2, aI g 48 (gHi x)), (md 3, aZ g 12 (gTr x)), (md 4, aI g 48 (gNu x)), (md 5, aZ g 12 (gAm x)), (md 6, aJ g 13000 (gSd x)), (md 7, aJ g 85 (gBd x)), (md 8, aJ g 5 (gWy x)), (md 9, aI g 5 (fun j => nI ((gCh x) j)))] H := hP.sub [9, 0, 1, 2, 3, 4, 5, 6, 7, 8] rfl
  have hD : va_D A [(md 0, .inr (4, [.int (nI 0), .int (nI (gMi x)), .int (nI (gMo x)), .int (nI (gMw x)), .ref (md 1), .ref (md 2), .ref (md 3), .int (nI (gNi x)), .int (nI (gNo x)), .ref (md 4), .ref (md 5), .ref (md 6), .int (nI (gNs x)), .ref (md 7), .ref (md 8), .int (nI (gNb x)), .int (nI (gWd x)), .ref (md 9), .long (gTp x), .long (gBl x), .long (gWt x), .long (gWb x)])), (md 1, aI g 48 (gLo x)), (md 2, aI g 48 (gHi x)), (md 3, aZ g 12 (gTr x)), (md 4, aI g 48 (gNu x)), (md 5, aZ g 12 (gAm x)), (md 6, aJ g 13000 (gSd x)), (md 7, aJ g 85 (gBd x)), (md 8, aJ g 5 (gWy x)), (md 9, aI g 5 (fun j => nI ((gCh x) j)))] := hD.sub [9, 0, 1, 2, 3, 4, 5, 6, 7, 8] rfl rfl
  have h_3 : r_1 = bI (inR wk (gMw x)) := h_3
  subst h_3
  refine lv_if_eq (tgt := 23) hx hb dX4_set_10 (by decide) (fun c_4 => ?_) (fun c_4 => ?_)
  · skip
    have hno : ¬ (inR wk (gMw x) = true ∧ ¬ gTr x (wN wk) = bv) := fun q => absurd (bI_eq0.mp c_4) (by rw [q.1]; decide)
    refine lv_iconst (v := nI 0) hx hb dX4_set_23 (by decide) ?_
    exact ret dX4_set_24 ((nI 0, gMi x, gMo x, gMw x, gLo x, gHi x, gTr x, gNi x, gNo x, gNu x, gAm x, gSd x, gNs x, gBd x, gWy x, gNb x, gWd x, (gCh x), gTp x, gBl x, gWt x, gWb x)) (Or.inr ⟨hno, rfl, ⟨rfl, rfl, rfl, rfl, rfl, rfl⟩⟩) (by decide) hP hD hS
  · skip
    have hw1 := bI_ne0.mp c_4
    obtain ⟨w, hw, hw31, hww⟩ := inR_nI hw1
    subst hww
    refine lv_aload_n hx hb dX4_set_13 rfl (lv_at hl 0 rfl) ?_
    refine k_get hx hb hts hown hK hP iw_X4_set_X4 rfl 0 6 fm_X4_set_23 (by decide) rfl rfl dX4_set_14 ?_
    refine lv_iload_n hx hb dX4_set_17 rfl (lv_at hl 1 rfl) ?_
    refine k_zald hx hb hK hP 3 rfl (by omega) (by omega) dX4_set_18 ?_
    refine lv_iload_n hx hb dX4_set_19 rfl (lv_at hl 2 rfl) ?_
    refine lv_icmp_ne (tgt := 25) hx hb dX4_set_20 (by decide) (fun c_5 => ?_) (fun c_5 => ?_)
    · skip
      have hne := c_5
      refine lv_aload_n hx hb dX4_set_25 rfl (lv_at hl 0 rfl) ?_
      refine k_get hx hb hts hown hK hP iw_X4_set_X4 rfl 0 6 fm_X4_set_23 (by decide) rfl rfl dX4_set_26 ?_
      refine lv_iload_n hx hb dX4_set_29 rfl (lv_at hl 1 rfl) ?_
      refine lv_iload_n hx hb dX4_set_30 rfl (lv_at hl 2 rfl) ?_
      refine k_zast hx hb hK hP hD hS 3 rfl (by omega) (by omega) (hbv) dX4_set_31 (fun H locs hP hD hS => ?_)
      have hP : va_P g.1 vwCl [(md 0, .inr (4, [.int (nI 0), .int (nI (gMi x)), .int (nI (gMo x)), .int (nI (gMw x)), .ref (md 1), .ref (md 2), .ref (md 3), .int (nI (gNi x)), .int (nI (gNo x)), .ref (md 4), .ref (md 5), .ref (md 6), .int (nI (gNs x)), .ref (md 7), .ref (md 8), .int (nI (gNb x)), .int (nI (gWd x)), .ref (md 9), .long (gTp x), .long (gBl x), .long (gWt x), .long (gWb x)])), (md 1, aI g 48 (gLo x)), (md 2, aI g 48 (gHi x)), (md 3, aZ g 12 (upd (gTr x) w bv)), (md 4, aI g 48 (gNu x)), (md 5, aZ g 12 (gAm x)), (md 6, aJ g 13000 (gSd x)), (md 7, aJ g 85 (gBd x)), (md 8, aJ g 5 (gWy x)), (md 9, aI g 5 (fun j => nI ((gCh x) j)))] H := hP
      have hD : va_D A [(md 0, .inr (4, [.int (nI 0), .int (nI (gMi x)), .int (nI (gMo x)), .int (nI (gMw x)), .ref (md 1), .ref (md 2), .ref (md 3), .int (nI (gNi x)), .int (nI (gNo x)), .ref (md 4), .ref (md 5), .ref (md 6), .int (nI (gNs x)), .ref (md 7), .ref (md 8), .int (nI (gNb x)), .int (nI (gWd x)), .ref (md 9), .long (gTp x), .long (gBl x), .long (gWt x), .long (gWb x)])), (md 1, aI g 48 (gLo x)), (md 2, aI g 48 (gHi x)), (md 3, aZ g 12 (upd (gTr x) w bv)), (md 4, aI g 48 (gNu x)), (md 5, aZ g 12 (gAm x)), (md 6, aJ g 13000 (gSd x)), (md 7, aJ g 85 (gBd x)), (md 8, aJ g 5 (gWy x)), (md 9, aI g 5 (fun j => nI ((gCh x) j)))] := hD
      refine lv_iconst (v := nI 1) hx hb dX4_set_32 (by decide) ?_
      exact ret dX4_set_33 ((nI 0, gMi x, gMo x, gMw x, gLo x, gHi x, upd (gTr x) w bv, gNi x, gNo x, gNu x, gAm x, gSd x, gNs x, gBd x, gWy x, gNb x, gWd x, (gCh x), gTp x, gBl x, gWt x, gWb x)) (Or.inl ⟨⟨hw1, by rw [wN_n hw31]; exact hne⟩, rfl, by rw [wN_n hw31]; exact ⟨rfl, rfl, rfl, rfl, rfl, rfl⟩⟩) (by decide) hP hD hS
    · skip
      have hno : ¬ (inR (nI w) (gMw x) = true ∧ ¬ gTr x (wN (nI w)) = bv) := fun q => q.2 (by rw [wN_n hw31]; exact c_5)
      refine lv_iconst (v := nI 0) hx hb dX4_set_23 (by decide) ?_
      exact ret dX4_set_24 ((nI 0, gMi x, gMo x, gMw x, gLo x, gHi x, gTr x, gNi x, gNo x, gNu x, gAm x, gSd x, gNs x, gBd x, gWy x, gNb x, gWd x, (gCh x), gTp x, gBl x, gWt x, gWb x)) (Or.inr ⟨hno, rfl, ⟨rfl, rfl, rfl, rfl, rfl, rfl⟩⟩) (by decide) hP hD hS
theorem iw_X4_missing_X4 : ∀ w ∈ wsX40, w ∈ wsX4_missing := fun w h => List.mem_cons_of_mem _ (List.mem_append_right _ h)
theorem fm_X4_missing_46 : Cond.fieldLink RX4 46 "EdgeBenchModel" "thrown" "I" ∈ wsX4_missing := List.mem_of_getElem? (i := 1) rfl
theorem cw_X4_missing_60_0_0 {R : Room} {s : State} {args : Array Value} (hts : ∀ w ∈ wsX4_missing, w.before args s = true) (hN : nsW s) (hR : 0 + 1 ≤ R.frames ∧ 8 + (2 + 11) + 0 ≤ R.locals) : CallW R s args RX4 RX4 60 yX4_isWork cX4_isWork 2 (some .boolean) wsX4_isWork { frames := 0, cells := 0, slots := 0, locals := 0 } 0 0 1 := cwV 1 hts gX4_missing_X4_isWork rfl rfl rfl ⟨rfl, hdn_X4_isWork⟩ hR
theorem cw_X4_missing_56_0_0 {R : Room} {s : State} {args : Array Value} (hts : ∀ w ∈ wsX4_missing, w.before args s = true) (hN : nsW s) (hR : 0 + 1 ≤ R.frames ∧ 8 + (1 + 11) + 0 ≤ R.locals) : CallW R s args RX4 RX4 56 yX4_things cX4_things 1 (some .int) wsX4_things { frames := 0, cells := 0, slots := 0, locals := 0 } 0 0 0 := cwV 0 hts gX4_missing_X4_things rfl rfl rfl ⟨rfl, hdn_X4_things⟩ hR
theorem cw_X4_missing_52_0_0 {R : Room} {s : State} {args : Array Value} (hts : ∀ w ∈ wsX4_missing, w.before args s = true) (hN : nsW s) (hR : 0 + 1 ≤ R.frames ∧ 8 + (3 + 11) + 0 ≤ R.locals) : CallB R s args RX4 52 yX4_isIn cX4_isIn 3 (some .boolean) wsX4_isIn { frames := 0, cells := 0, slots := 0, locals := 0 } 0 0 3 ∧ (Cond.static yX4_isIn).before args s = true := va_cwS 3 hts gX4_missing_X4_isIn rfl rfl rfl hdn_X4_isIn hR
theorem fm_X4_missing_16 : Cond.fieldLink RX4 16 "EdgeBenchModel" "low" "[I" ∈ wsX4_missing := List.mem_of_getElem? (i := 2) rfl
theorem fm_X4_missing_20 : Cond.fieldLink RX4 20 "EdgeBenchModel" "high" "[I" ∈ wsX4_missing := List.mem_of_getElem? (i := 3) rfl
set_option maxHeartbeats 20000000 in
set_option maxRecDepth 100000 in
theorem c_X4_missing (l : Launch) (g : Gt) (md : Nat → Nat) (x : MS) (wk : Int32) (tk : Int32) (xa : Int32) (xb : Int32) (hmb : mBen x) : CI l yX4_missing wsX4_missing { frames := 1, cells := 0, slots := 0, locals := 22 } g [.ref (md 0), .int (wk), .int (tk), .int (xa), .int (xb)] [(md 0, .inr (4, [.int (gXt x), .int (nI (gMi x)), .int (nI (gMo x)), .int (nI (gMw x)), .ref (md 1), .ref (md 2), .ref (md 3), .int (nI (gNi x)), .int (nI (gNo x)), .ref (md 4), .ref (md 5), .ref (md 6), .int (nI (gNs x)), .ref (md 7), .ref (md 8), .int (nI (gNb x)), .int (nI (gWd x)), .ref (md 9), .long (gTp x), .long (gBl x), .long (gWt x), .long (gWb x)])), (md 1, aI g 48 (gLo x)), (md 2, aI g 48 (gHi x)), (md 3, aZ g 12 (gTr x)), (md 4, aI g 48 (gNu x)), (md 5, aZ g 12 (gAm x)), (md 6, aJ g 13000 (gSd x)), (md 7, aJ g 85 (gBd x)), (md 8, aJ g 5 (gWy x)), (md 9, aI g 5 (fun j => nI ((gCh x) j)))] (fun zr (zu : MS) => msmP x zu wk tk xa xb zr) (fun (zu : MS) => [(md 0, .inr (4, [.int (gXt zu), .int (nI (gMi zu)), .int (nI (gMo zu)), .int (nI (gMw zu)), .ref (md 1), .ref (md 2), .ref (md 3), .int (nI (gNi zu)), .int (nI (gNo zu)), .ref (md 4), .ref (md 5), .ref (md 6), .int (nI (gNs zu)), .ref (md 7), .ref (md 8), .int (nI (gNb zu)), .int (nI (gWd zu)), .ref (md 9), .long (gTp zu), .long (gBl zu), .long (gWt zu), .long (gWb zu)])), (md 1, aI g 48 (gLo zu)), (md 2, aI g 48 (gHi zu)), (md 3, aZ g 12 (gTr zu)), (md 4, aI g 48 (gNu zu)), (md 5, aZ g 12 (gAm zu)), (md 6, aJ g 13000 (gSd zu)), (md 7, aJ g 85 (gBd zu)), (md 8, aJ g 5 (gWy zu)), (md 9, aI g 5 (fun j => nI ((gCh zu) j)))]) 0 0 := by
  refine ent_z (cc := cX4_missing) (maxL := 5) (by decide) rfl (Nat.le_of_ble_eq_true rfl) ?_
  intro p e s m below meth c A args Q hE ret ls hl
  obtain ⟨hx, hb, hml, hown, hts, hnm, hA, hP, hD, hK, hN⟩ := hE
  have hS : va_S A s.heap s.heap [] := va_S.rf
  have hl : lv_has ls 5 [(0, .ref (md 0)), (1, .int (wk)), (2, .int (tk)), (3, .int (xa)), (4, .int (xb))] := hl
  have hP : va_P g.1 vwCl [(md 0, .inr (4, [.int (gXt x), .int (nI (gMi x)), .int (nI (gMo x)), .int (nI (gMw x)), .ref (md 1), .ref (md 2), .ref (md 3), .int (nI (gNi x)), .int (nI (gNo x)), .ref (md 4), .ref (md 5), .ref (md 6), .int (nI (gNs x)), .ref (md 7), .ref (md 8), .int (nI (gNb x)), .int (nI (gWd x)), .ref (md 9), .long (gTp x), .long (gBl x), .long (gWt x), .long (gWb x)])), (md 1, aI g 48 (gLo x)), (md 2, aI g 48 (gHi x)), (md 3, aZ g 12 (gTr x)), (md 4, aI g 48 (gNu x)), (md 5, aZ g 12 (gAm x)), (md 6, aJ g 13000 (gSd x)), (md 7, aJ g 85 (gBd x)), (md 8, aJ g 5 (gWy x)), (md 9, aI g 5 (fun j => nI ((gCh x) j)))] s.heap := hP
  obtain ⟨⟨hmi1, hmi⟩, ⟨hmo1, hmo⟩, hmw, htr⟩ := id hmb
  refine lv_aload_n hx hb dX4_missing_0 rfl (lv_at hl 0 rfl) ?_
  refine lv_iconst (v := nI 0) hx hb dX4_missing_1 (by decide) ?_
  refine k_put hx hb hts hown hK hP hD hS iw_X4_missing_X4 rfl tyX4 tyX4_ok nmX4 0 0 fm_X4_missing_46 (by decide) rfl rfl rfl rfl rfl (Nat.le_of_ble_eq_true rfl) dX4_missing_2 (fun H locs hP hD hS => ?_)
  have hP : va_P g.1 vwCl [(md 0, .inr (4, [.int (nI 0), .int (nI (gMi x)), .int (nI (gMo x)), .int (nI (gMw x)), .ref (md 1), .ref (md 2), .ref (md 3), .int (nI (gNi x)), .int (nI (gNo x)), .ref (md 4), .ref (md 5), .ref (md 6), .int (nI (gNs x)), .ref (md 7), .ref (md 8), .int (nI (gNb x)), .int (nI (gWd x)), .ref (md 9), .long (gTp x), .long (gBl x), .long (gWt x), .long (gWb x)])), (md 1, aI g 48 (gLo x)), (md 2, aI g 48 (gHi x)), (md 3, aZ g 12 (gTr x)), (md 4, aI g 48 (gNu x)), (md 5, aZ g 12 (gAm x)), (md 6, aJ g 13000 (gSd x)), (md 7, aJ g 85 (gBd x)), (md 8, aJ g 5 (gWy x)), (md 9, aI g 5 (fun j => nI ((gCh x) j)))] H := hP
  have hD : va_D A [(md 0, .inr (4, [.int (nI 0), .int (nI (gMi x)), .int (nI (gMo x)), .int (nI (gMw x)), .ref (md 1), .ref (md 2), .ref (md 3), .int (nI (gNi x)), .int (nI (gNo x)), .ref (md 4), .ref (md 5), .ref (md 6), .int (nI (gNs x)), .ref (md 7), .ref (md 8), .int (nI (gNb x)), .int (nI (gWd x)), .ref (md 9), .long (gTp x), .long (gBl x), .long (gWt x), .long (gWb x)])), (md 1, aI g 48 (gLo x)), (md 2, aI g 48 (gHi x)), (md 3, aZ g 12 (gTr x)), (md 4, aI g 48 (gNu x)), (md 5, aZ g 12 (gAm x)), (md 6, aJ g 13000 (gSd x)), (md 7, aJ g 85 (gBd x)), (md 8, aJ g 5 (gWy x)), (md 9, aI g 5 (fun j => nI ((gCh x) j)))] := hD
  refine lv_aload_n hx hb dX4_missing_5 rfl (lv_at hl 0 rfl) ?_
  refine lv_iload_n hx hb dX4_missing_6 rfl (lv_at hl 1 rfl) ?_
  refine go_i (wc := [(md 0, .inr (4, [.int (nI 0), .int (nI (gMi x)), .int (nI (gMo x)), .int (nI (gMw x)), .ref (md 1), .ref (md 2), .ref (md 3), .int (nI (gNi x)), .int (nI (gNo x)), .ref (md 4), .ref (md 5), .ref (md 6), .int (nI (gNs x)), .ref (md 7), .ref (md 8), .int (nI (gNb x)), .int (nI (gWd x)), .ref (md 9), .long (gTp x), .long (gBl x), .long (gWt x), .long (gWb x)]))]) (wr := [(md 1, aI g 48 (gLo x)), (md 2, aI g 48 (gHi x)), (md 3, aZ g 12 (gTr x)), (md 4, aI g 48 (gNu x)), (md 5, aZ g 12 (gAm x)), (md 6, aJ g 13000 (gSd x)), (md 7, aJ g 85 (gBd x)), (md 8, aJ g 5 (gWy x)), (md 9, aI g 5 (fun j => nI ((gCh x) j)))]) hP hD hS hA [0] [1, 2, 3, 4, 5, 6, 7, 8, 9] rfl rfl rfl rfl (by decide) (fun hPc hDc => rn_V (As := [.int (wk)]) (rest := []) ⟨hx, hb, hml, hown, hts⟩ ((c_X4_isWork l g md (nI 0) (gMi x) (gMo x) (gMw x) (gNi x) (gNo x) (gNs x) (gNb x) (gWd x) (gTp x) (gBl x) (gWt x) (gWb x) wk (by omega)) _) (cw_X4_missing_60_0_0 hts hN ⟨Nat.le_of_ble_eq_true rfl, Nat.le_of_ble_eq_true rfl⟩) hK hN hPc hDc 0 rfl rfl rfl rfl hl.1 (Nat.le_of_ble_eq_true rfl) dX4_missing_7 ⟨Nat.le_of_ble_eq_true rfl, Nat.le_of_ble_eq_true rfl⟩) ?_
  intro r_1 u_2 H locs h_3 hP hD hS
  have hP : va_P g.1 vwCl [(md 0, .inr (4, [.int (nI 0), .int (nI (gMi x)), .int (nI (gMo x)), .int (nI (gMw x)), .ref (md 1), .ref (md 2), .ref (md 3), .int (nI (gNi x)), .int (nI (gNo x)), .ref (md 4), .ref (md 5), .ref (md 6), .int (nI (gNs x)), .ref (md 7), .ref (md 8), .int (nI (gNb x)), .int (nI (gWd x)), .ref (md 9), .long (gTp x), .long (gBl x), .long (gWt x), .long (gWb x)])), (md 1, aI g 48 (gLo x)), (md 2, aI g 48 (gHi x)), (md 3, aZ g 12 (gTr x)), (md 4, aI g 48 (gNu x)), (md 5, aZ g 12 (gAm x)), (md 6, aJ g 13000 (gSd x)), (md 7, aJ g 85 (gBd x)), (md 8, aJ g 5 (gWy x)), (md 9, aI g 5 (fun j => nI ((gCh x) j)))] H := hP.sub [9, 0, 1, 2, 3, 4, 5, 6, 7, 8] rfl
  have hD : va_D A [(md 0, .inr (4, [.int (nI 0), .int (nI (gMi x)), .int (nI (gMo x)), .int (nI (gMw x)), .ref (md 1), .ref (md 2), .ref (md 3), .int (nI (gNi x)), .int (nI (gNo x)), .ref (md 4), .ref (md 5), .ref (md 6), .int (nI (gNs x)), .ref (md 7), .ref (md 8), .int (nI (gNb x)), .int (nI (gWd x)), .ref (md 9), .long (gTp x), .long (gBl x), .long (gWt x), .long (gWb x)])), (md 1, aI g 48 (gLo x)), (md 2, aI g 48 (gHi x)), (md 3, aZ g 12 (gTr x)), (md 4, aI g 48 (gNu x)), (md 5, aZ g 12 (gAm x)), (md 6, aJ g 13000 (gSd x)), (md 7, aJ g 85 (gBd x)), (md 8, aJ g 5 (gWy x)), (md 9, aI g 5 (fun j => nI ((gCh x) j)))] := hD.sub [9, 0, 1, 2, 3, 4, 5, 6, 7, 8] rfl rfl
  have h_3 : r_1 = bI (inR wk (gMw x)) := h_3
  subst h_3
  refine lv_if_eq (tgt := 48) hx hb dX4_missing_10 (by decide) (fun c_4 => ?_) (fun c_4 => ?_)
  · skip
    have hno : ¬ msmC x wk tk xa xb := fun q => absurd (bI_eq0.mp c_4) (by have := q.1; rw [this]; decide)
    refine lv_iconst (v := nI 0) hx hb dX4_missing_48 (by decide) ?_
    exact ret dX4_missing_49 ((nI 0, gMi x, gMo x, gMw x, gLo x, gHi x, gTr x, gNi x, gNo x, gNu x, gAm x, gSd x, gNs x, gBd x, gWy x, gNb x, gWd x, (gCh x), gTp x, gBl x, gWt x, gWb x)) (Or.inr ⟨hno, rfl, ⟨rfl, rfl, rfl, rfl, rfl, rfl⟩⟩) (by decide) hP hD hS
  · skip
    have h1 := bI_ne0.mp c_4
    refine lv_iload_n hx hb dX4_missing_13 rfl (lv_at hl 2 rfl) ?_
    refine lv_iconst (v := nI 0) hx hb dX4_missing_14 (by decide) ?_
    refine lv_aload_n hx hb dX4_missing_15 rfl (lv_at hl 0 rfl) ?_
    refine go_i (wc := [(md 0, .inr (4, [.int (nI 0), .int (nI (gMi x)), .int (nI (gMo x)), .int (nI (gMw x)), .ref (md 1), .ref (md 2), .ref (md 3), .int (nI (gNi x)), .int (nI (gNo x)), .ref (md 4), .ref (md 5), .ref (md 6), .int (nI (gNs x)), .ref (md 7), .ref (md 8), .int (nI (gNb x)), .int (nI (gWd x)), .ref (md 9), .long (gTp x), .long (gBl x), .long (gWt x), .long (gWb x)]))]) (wr := [(md 1, aI g 48 (gLo x)), (md 2, aI g 48 (gHi x)), (md 3, aZ g 12 (gTr x)), (md 4, aI g 48 (gNu x)), (md 5, aZ g 12 (gAm x)), (md 6, aJ g 13000 (gSd x)), (md 7, aJ g 85 (gBd x)), (md 8, aJ g 5 (gWy x)), (md 9, aI g 5 (fun j => nI ((gCh x) j)))]) hP hD hS hA [0] [1, 2, 3, 4, 5, 6, 7, 8, 9] rfl rfl rfl rfl (by decide) (fun hPc hDc => rn_V (As := []) (rest := [.int (nI 0), .int (tk)]) ⟨hx, hb, hml, hown, hts⟩ ((c_X4_things l g md (nI 0) (gMi x) (gMo x) (gMw x) (gNi x) (gNo x) (gNs x) (gNb x) (gWd x) (gTp x) (gBl x) (gWt x) (gWb x) ) _) (cw_X4_missing_56_0_0 hts hN ⟨Nat.le_of_ble_eq_true rfl, Nat.le_of_ble_eq_true rfl⟩) hK hN hPc hDc 0 rfl rfl rfl rfl hl.1 (Nat.le_of_ble_eq_true rfl) dX4_missing_16 ⟨Nat.le_of_ble_eq_true rfl, Nat.le_of_ble_eq_true rfl⟩) ?_
    intro r_5 u_6 H locs h_7 hP hD hS
    have hP : va_P g.1 vwCl [(md 0, .inr (4, [.int (nI 0), .int (nI (gMi x)), .int (nI (gMo x)), .int (nI (gMw x)), .ref (md 1), .ref (md 2), .ref (md 3), .int (nI (gNi x)), .int (nI (gNo x)), .ref (md 4), .ref (md 5), .ref (md 6), .int (nI (gNs x)), .ref (md 7), .ref (md 8), .int (nI (gNb x)), .int (nI (gWd x)), .ref (md 9), .long (gTp x), .long (gBl x), .long (gWt x), .long (gWb x)])), (md 1, aI g 48 (gLo x)), (md 2, aI g 48 (gHi x)), (md 3, aZ g 12 (gTr x)), (md 4, aI g 48 (gNu x)), (md 5, aZ g 12 (gAm x)), (md 6, aJ g 13000 (gSd x)), (md 7, aJ g 85 (gBd x)), (md 8, aJ g 5 (gWy x)), (md 9, aI g 5 (fun j => nI ((gCh x) j)))] H := hP.sub [9, 0, 1, 2, 3, 4, 5, 6, 7, 8] rfl
    have hD : va_D A [(md 0, .inr (4, [.int (nI 0), .int (nI (gMi x)), .int (nI (gMo x)), .int (nI (gMw x)), .ref (md 1), .ref (md 2), .ref (md 3), .int (nI (gNi x)), .int (nI (gNo x)), .ref (md 4), .ref (md 5), .ref (md 6), .int (nI (gNs x)), .ref (md 7), .ref (md 8), .int (nI (gNb x)), .int (nI (gWd x)), .ref (md 9), .long (gTp x), .long (gBl x), .long (gWt x), .long (gWb x)])), (md 1, aI g 48 (gLo x)), (md 2, aI g 48 (gHi x)), (md 3, aZ g 12 (gTr x)), (md 4, aI g 48 (gNu x)), (md 5, aZ g 12 (gAm x)), (md 6, aJ g 13000 (gSd x)), (md 7, aJ g 85 (gBd x)), (md 8, aJ g 5 (gWy x)), (md 9, aI g 5 (fun j => nI ((gCh x) j)))] := hD.sub [9, 0, 1, 2, 3, 4, 5, 6, 7, 8] rfl rfl
    have h_7 : r_5 = nI ((gMi x) + (gMo x)) := h_7
    subst h_7
    refine lv_iconst (v := nI 1) hx hb dX4_missing_19 (by decide) ?_
    refine lv_isub hx hb dX4_missing_20 ?_
    refine k_ei (y := nI (((gMi x) + (gMo x)) - 1)) (pk_sub (by omega)) ?_
    refine go_i (wc := []) (wr := [(md 0, .inr (4, [.int (nI 0), .int (nI (gMi x)), .int (nI (gMo x)), .int (nI (gMw x)), .ref (md 1), .ref (md 2), .ref (md 3), .int (nI (gNi x)), .int (nI (gNo x)), .ref (md 4), .ref (md 5), .ref (md 6), .int (nI (gNs x)), .ref (md 7), .ref (md 8), .int (nI (gNb x)), .int (nI (gWd x)), .ref (md 9), .long (gTp x), .long (gBl x), .long (gWt x), .long (gWb x)])), (md 1, aI g 48 (gLo x)), (md 2, aI g 48 (gHi x)), (md 3, aZ g 12 (gTr x)), (md 4, aI g 48 (gNu x)), (md 5, aZ g 12 (gAm x)), (md 6, aJ g 13000 (gSd x)), (md 7, aJ g 85 (gBd x)), (md 8, aJ g 5 (gWy x)), (md 9, aI g 5 (fun j => nI ((gCh x) j)))]) hP hD hS hA [] [0, 1, 2, 3, 4, 5, 6, 7, 8, 9] rfl rfl rfl rfl (by decide) (fun hPc hDc => rn_S (As := [.int (tk), .int (nI 0), .int (nI (((gMi x) + (gMo x)) - 1))]) (rest := []) ⟨hx, hb, hml, hown, hts⟩ ((c_X4_isIn l g tk (nI 0) (nI (((gMi x) + (gMo x)) - 1)) ) _) (cw_X4_missing_52_0_0 hts hN ⟨Nat.le_of_ble_eq_true rfl, Nat.le_of_ble_eq_true rfl⟩) hK hN hPc hDc rfl rfl hl.1 (Nat.le_of_ble_eq_true rfl) dX4_missing_21 ⟨Nat.le_of_ble_eq_true rfl, Nat.le_of_ble_eq_true rfl⟩) ?_
    intro r_8 u_9 H locs h_10 hP hD hS
    have hP : va_P g.1 vwCl [(md 0, .inr (4, [.int (nI 0), .int (nI (gMi x)), .int (nI (gMo x)), .int (nI (gMw x)), .ref (md 1), .ref (md 2), .ref (md 3), .int (nI (gNi x)), .int (nI (gNo x)), .ref (md 4), .ref (md 5), .ref (md 6), .int (nI (gNs x)), .ref (md 7), .ref (md 8), .int (nI (gNb x)), .int (nI (gWd x)), .ref (md 9), .long (gTp x), .long (gBl x), .long (gWt x), .long (gWb x)])), (md 1, aI g 48 (gLo x)), (md 2, aI g 48 (gHi x)), (md 3, aZ g 12 (gTr x)), (md 4, aI g 48 (gNu x)), (md 5, aZ g 12 (gAm x)), (md 6, aJ g 13000 (gSd x)), (md 7, aJ g 85 (gBd x)), (md 8, aJ g 5 (gWy x)), (md 9, aI g 5 (fun j => nI ((gCh x) j)))] H := hP.sub [0, 1, 2, 3, 4, 5, 6, 7, 8, 9] rfl
    have hD : va_D A [(md 0, .inr (4, [.int (nI 0), .int (nI (gMi x)), .int (nI (gMo x)), .int (nI (gMw x)), .ref (md 1), .ref (md 2), .ref (md 3), .int (nI (gNi x)), .int (nI (gNo x)), .ref (md 4), .ref (md 5), .ref (md 6), .int (nI (gNs x)), .ref (md 7), .ref (md 8), .int (nI (gNb x)), .int (nI (gWd x)), .ref (md 9), .long (gTp x), .long (gBl x), .long (gWt x), .long (gWb x)])), (md 1, aI g 48 (gLo x)), (md 2, aI g 48 (gHi x)), (md 3, aZ g 12 (gTr x)), (md 4, aI g 48 (gNu x)), (md 5, aZ g 12 (gAm x)), (md 6, aJ g 13000 (gSd x)), (md 7, aJ g 85 (gBd x)), (md 8, aJ g 5 (gWy x)), (md 9, aI g 5 (fun j => nI ((gCh x) j)))] := hD.sub [0, 1, 2, 3, 4, 5, 6, 7, 8, 9] rfl rfl
    have h_10 : r_8 = bI (isI tk (nI 0) (nI (((gMi x) + (gMo x)) - 1))) := h_10
    subst h_10
    refine lv_if_eq (tgt := 48) hx hb dX4_missing_24 (by decide) (fun c_11 => ?_) (fun c_11 => ?_)
    · skip
      have hno : ¬ msmC x wk tk xa xb := fun q => absurd (bI_eq0.mp c_11) (by have := q.2.1; rw [this]; decide)
      refine lv_iconst (v := nI 0) hx hb dX4_missing_48 (by decide) ?_
      exact ret dX4_missing_49 ((nI 0, gMi x, gMo x, gMw x, gLo x, gHi x, gTr x, gNi x, gNo x, gNu x, gAm x, gSd x, gNs x, gBd x, gWy x, gNb x, gWd x, (gCh x), gTp x, gBl x, gWt x, gWb x)) (Or.inr ⟨hno, rfl, ⟨rfl, rfl, rfl, rfl, rfl, rfl⟩⟩) (by decide) hP hD hS
    · skip
      have h2 := bI_ne0.mp c_11
      refine lv_iload_n hx hb dX4_missing_27 rfl (lv_at hl 3 rfl) ?_
      refine lv_iconst (v := nI 0) hx hb dX4_missing_28 (by decide) ?_
      refine lv_bipush (v := nI 30) hx hb dX4_missing_29 (by decide) ?_
      refine go_i (wc := []) (wr := [(md 0, .inr (4, [.int (nI 0), .int (nI (gMi x)), .int (nI (gMo x)), .int (nI (gMw x)), .ref (md 1), .ref (md 2), .ref (md 3), .int (nI (gNi x)), .int (nI (gNo x)), .ref (md 4), .ref (md 5), .ref (md 6), .int (nI (gNs x)), .ref (md 7), .ref (md 8), .int (nI (gNb x)), .int (nI (gWd x)), .ref (md 9), .long (gTp x), .long (gBl x), .long (gWt x), .long (gWb x)])), (md 1, aI g 48 (gLo x)), (md 2, aI g 48 (gHi x)), (md 3, aZ g 12 (gTr x)), (md 4, aI g 48 (gNu x)), (md 5, aZ g 12 (gAm x)), (md 6, aJ g 13000 (gSd x)), (md 7, aJ g 85 (gBd x)), (md 8, aJ g 5 (gWy x)), (md 9, aI g 5 (fun j => nI ((gCh x) j)))]) hP hD hS hA [] [0, 1, 2, 3, 4, 5, 6, 7, 8, 9] rfl rfl rfl rfl (by decide) (fun hPc hDc => rn_S (As := [.int (xa), .int (nI 0), .int (nI 30)]) (rest := []) ⟨hx, hb, hml, hown, hts⟩ ((c_X4_isIn l g xa (nI 0) (nI 30) ) _) (cw_X4_missing_52_0_0 hts hN ⟨Nat.le_of_ble_eq_true rfl, Nat.le_of_ble_eq_true rfl⟩) hK hN hPc hDc rfl rfl hl.1 (Nat.le_of_ble_eq_true rfl) dX4_missing_31 ⟨Nat.le_of_ble_eq_true rfl, Nat.le_of_ble_eq_true rfl⟩) ?_
      intro r_12 u_13 H locs h_14 hP hD hS
      have hP : va_P g.1 vwCl [(md 0, .inr (4, [.int (nI 0), .int (nI (gMi x)), .int (nI (gMo x)), .int (nI (gMw x)), .ref (md 1), .ref (md 2), .ref (md 3), .int (nI (gNi x)), .int (nI (gNo x)), .ref (md 4), .ref (md 5), .ref (md 6), .int (nI (gNs x)), .ref (md 7), .ref (md 8), .int (nI (gNb x)), .int (nI (gWd x)), .ref (md 9), .long (gTp x), .long (gBl x), .long (gWt x), .long (gWb x)])), (md 1, aI g 48 (gLo x)), (md 2, aI g 48 (gHi x)), (md 3, aZ g 12 (gTr x)), (md 4, aI g 48 (gNu x)), (md 5, aZ g 12 (gAm x)), (md 6, aJ g 13000 (gSd x)), (md 7, aJ g 85 (gBd x)), (md 8, aJ g 5 (gWy x)), (md 9, aI g 5 (fun j => nI ((gCh x) j)))] H := hP.sub [0, 1, 2, 3, 4, 5, 6, 7, 8, 9] rfl
      have hD : va_D A [(md 0, .inr (4, [.int (nI 0), .int (nI (gMi x)), .int (nI (gMo x)), .int (nI (gMw x)), .ref (md 1), .ref (md 2), .ref (md 3), .int (nI (gNi x)), .int (nI (gNo x)), .ref (md 4), .ref (md 5), .ref (md 6), .int (nI (gNs x)), .ref (md 7), .ref (md 8), .int (nI (gNb x)), .int (nI (gWd x)), .ref (md 9), .long (gTp x), .long (gBl x), .long (gWt x), .long (gWb x)])), (md 1, aI g 48 (gLo x)), (md 2, aI g 48 (gHi x)), (md 3, aZ g 12 (gTr x)), (md 4, aI g 48 (gNu x)), (md 5, aZ g 12 (gAm x)), (md 6, aJ g 13000 (gSd x)), (md 7, aJ g 85 (gBd x)), (md 8, aJ g 5 (gWy x)), (md 9, aI g 5 (fun j => nI ((gCh x) j)))] := hD.sub [0, 1, 2, 3, 4, 5, 6, 7, 8, 9] rfl rfl
      have h_14 : r_12 = bI (isI xa (nI 0) (nI 30)) := h_14
      subst h_14
      refine lv_if_eq (tgt := 48) hx hb dX4_missing_34 (by decide) (fun c_15 => ?_) (fun c_15 => ?_)
      · skip
        have hno : ¬ msmC x wk tk xa xb := fun q => absurd (bI_eq0.mp c_15) (by have := q.2.2.1; rw [this]; decide)
        refine lv_iconst (v := nI 0) hx hb dX4_missing_48 (by decide) ?_
        exact ret dX4_missing_49 ((nI 0, gMi x, gMo x, gMw x, gLo x, gHi x, gTr x, gNi x, gNo x, gNu x, gAm x, gSd x, gNs x, gBd x, gWy x, gNb x, gWd x, (gCh x), gTp x, gBl x, gWt x, gWb x)) (Or.inr ⟨hno, rfl, ⟨rfl, rfl, rfl, rfl, rfl, rfl⟩⟩) (by decide) hP hD hS
      · skip
        have h3 := bI_ne0.mp c_15
        refine lv_iload hx hb dX4_missing_37 (lv_at hl 4 rfl) ?_
        refine lv_iload_n hx hb dX4_missing_39 rfl (lv_at hl 3 rfl) ?_
        refine lv_bipush (v := nI 30) hx hb dX4_missing_40 (by decide) ?_
        refine go_i (wc := []) (wr := [(md 0, .inr (4, [.int (nI 0), .int (nI (gMi x)), .int (nI (gMo x)), .int (nI (gMw x)), .ref (md 1), .ref (md 2), .ref (md 3), .int (nI (gNi x)), .int (nI (gNo x)), .ref (md 4), .ref (md 5), .ref (md 6), .int (nI (gNs x)), .ref (md 7), .ref (md 8), .int (nI (gNb x)), .int (nI (gWd x)), .ref (md 9), .long (gTp x), .long (gBl x), .long (gWt x), .long (gWb x)])), (md 1, aI g 48 (gLo x)), (md 2, aI g 48 (gHi x)), (md 3, aZ g 12 (gTr x)), (md 4, aI g 48 (gNu x)), (md 5, aZ g 12 (gAm x)), (md 6, aJ g 13000 (gSd x)), (md 7, aJ g 85 (gBd x)), (md 8, aJ g 5 (gWy x)), (md 9, aI g 5 (fun j => nI ((gCh x) j)))]) hP hD hS hA [] [0, 1, 2, 3, 4, 5, 6, 7, 8, 9] rfl rfl rfl rfl (by decide) (fun hPc hDc => rn_S (As := [.int (xb), .int (xa), .int (nI 30)]) (rest := []) ⟨hx, hb, hml, hown, hts⟩ ((c_X4_isIn l g xb xa (nI 30) ) _) (cw_X4_missing_52_0_0 hts hN ⟨Nat.le_of_ble_eq_true rfl, Nat.le_of_ble_eq_true rfl⟩) hK hN hPc hDc rfl rfl hl.1 (Nat.le_of_ble_eq_true rfl) dX4_missing_42 ⟨Nat.le_of_ble_eq_true rfl, Nat.le_of_ble_eq_true rfl⟩) ?_
        intro r_16 u_17 H locs h_18 hP hD hS
        have hP : va_P g.1 vwCl [(md 0, .inr (4, [.int (nI 0), .int (nI (gMi x)), .int (nI (gMo x)), .int (nI (gMw x)), .ref (md 1), .ref (md 2), .ref (md 3), .int (nI (gNi x)), .int (nI (gNo x)), .ref (md 4), .ref (md 5), .ref (md 6), .int (nI (gNs x)), .ref (md 7), .ref (md 8), .int (nI (gNb x)), .int (nI (gWd x)), .ref (md 9), .long (gTp x), .long (gBl x), .long (gWt x), .long (gWb x)])), (md 1, aI g 48 (gLo x)), (md 2, aI g 48 (gHi x)), (md 3, aZ g 12 (gTr x)), (md 4, aI g 48 (gNu x)), (md 5, aZ g 12 (gAm x)), (md 6, aJ g 13000 (gSd x)), (md 7, aJ g 85 (gBd x)), (md 8, aJ g 5 (gWy x)), (md 9, aI g 5 (fun j => nI ((gCh x) j)))] H := hP.sub [0, 1, 2, 3, 4, 5, 6, 7, 8, 9] rfl
        have hD : va_D A [(md 0, .inr (4, [.int (nI 0), .int (nI (gMi x)), .int (nI (gMo x)), .int (nI (gMw x)), .ref (md 1), .ref (md 2), .ref (md 3), .int (nI (gNi x)), .int (nI (gNo x)), .ref (md 4), .ref (md 5), .ref (md 6), .int (nI (gNs x)), .ref (md 7), .ref (md 8), .int (nI (gNb x)), .int (nI (gWd x)), .ref (md 9), .long (gTp x), .long (gBl x), .long (gWt x), .long (gWb x)])), (md 1, aI g 48 (gLo x)), (md 2, aI g 48 (gHi x)), (md 3, aZ g 12 (gTr x)), (md 4, aI g 48 (gNu x)), (md 5, aZ g 12 (gAm x)), (md 6, aJ g 13000 (gSd x)), (md 7, aJ g 85 (gBd x)), (md 8, aJ g 5 (gWy x)), (md 9, aI g 5 (fun j => nI ((gCh x) j)))] := hD.sub [0, 1, 2, 3, 4, 5, 6, 7, 8, 9] rfl rfl
        have h_18 : r_16 = bI (isI xb xa (nI 30)) := h_18
        subst h_18
        refine lv_if_ne (tgt := 50) hx hb dX4_missing_45 (by decide) (fun c_19 => ?_) (fun c_19 => ?_)
        · skip
          have h4 := bI_ne0.mp c_19
          obtain ⟨w, hw, hw31, hww⟩ := inR_nI h1
          obtain ⟨t, htt, ht1, ht2, ht31⟩ := isI_get (by decide) (by omega) h2
          subst hww
          subst htt
          refine lv_aload_n hx hb dX4_missing_50 rfl (lv_at hl 0 rfl) ?_
          refine k_get hx hb hts hown hK hP iw_X4_missing_X4 rfl 0 4 fm_X4_missing_16 (by decide) rfl rfl dX4_missing_51 ?_
          refine lv_iconst (v := nI 4) hx hb dX4_missing_54 (by decide) ?_
          refine lv_iload_n hx hb dX4_missing_55 rfl (lv_at hl 1 rfl) ?_
          refine lv_imul hx hb dX4_missing_56 ?_
          refine k_ei (y := nI (w * 4)) ((pk_mul _ _).trans (congrArg nI (Nat.mul_comm _ _))) ?_
          refine lv_iload_n hx hb dX4_missing_57 rfl (lv_at hl 2 rfl) ?_
          refine lv_iadd hx hb dX4_missing_58 ?_
          refine k_ei (y := nI (w * 4 + t)) (nI_add _ _) ?_
          refine lv_iload_n hx hb dX4_missing_59 rfl (lv_at hl 3 rfl) ?_
          refine k_iast hx hb hK hP hD hS 1 rfl (by omega) (by omega) dX4_missing_60 (fun H locs hP hD hS => ?_)
          have hP : va_P g.1 vwCl [(md 0, .inr (4, [.int (nI 0), .int (nI (gMi x)), .int (nI (gMo x)), .int (nI (gMw x)), .ref (md 1), .ref (md 2), .ref (md 3), .int (nI (gNi x)), .int (nI (gNo x)), .ref (md 4), .ref (md 5), .ref (md 6), .int (nI (gNs x)), .ref (md 7), .ref (md 8), .int (nI (gNb x)), .int (nI (gWd x)), .ref (md 9), .long (gTp x), .long (gBl x), .long (gWt x), .long (gWb x)])), (md 1, aI g 48 (upd (gLo x) (w * 4 + t) xa)), (md 2, aI g 48 (gHi x)), (md 3, aZ g 12 (gTr x)), (md 4, aI g 48 (gNu x)), (md 5, aZ g 12 (gAm x)), (md 6, aJ g 13000 (gSd x)), (md 7, aJ g 85 (gBd x)), (md 8, aJ g 5 (gWy x)), (md 9, aI g 5 (fun j => nI ((gCh x) j)))] H := hP
          have hD : va_D A [(md 0, .inr (4, [.int (nI 0), .int (nI (gMi x)), .int (nI (gMo x)), .int (nI (gMw x)), .ref (md 1), .ref (md 2), .ref (md 3), .int (nI (gNi x)), .int (nI (gNo x)), .ref (md 4), .ref (md 5), .ref (md 6), .int (nI (gNs x)), .ref (md 7), .ref (md 8), .int (nI (gNb x)), .int (nI (gWd x)), .ref (md 9), .long (gTp x), .long (gBl x), .long (gWt x), .long (gWb x)])), (md 1, aI g 48 (upd (gLo x) (w * 4 + t) xa)), (md 2, aI g 48 (gHi x)), (md 3, aZ g 12 (gTr x)), (md 4, aI g 48 (gNu x)), (md 5, aZ g 12 (gAm x)), (md 6, aJ g 13000 (gSd x)), (md 7, aJ g 85 (gBd x)), (md 8, aJ g 5 (gWy x)), (md 9, aI g 5 (fun j => nI ((gCh x) j)))] := hD
          refine lv_aload_n hx hb dX4_missing_61 rfl (lv_at hl 0 rfl) ?_
          refine k_get hx hb hts hown hK hP iw_X4_missing_X4 rfl 0 5 fm_X4_missing_20 (by decide) rfl rfl dX4_missing_62 ?_
          refine lv_iconst (v := nI 4) hx hb dX4_missing_65 (by decide) ?_
          refine lv_iload_n hx hb dX4_missing_66 rfl (lv_at hl 1 rfl) ?_
          refine lv_imul hx hb dX4_missing_67 ?_
          refine k_ei (y := nI (w * 4)) ((pk_mul _ _).trans (congrArg nI (Nat.mul_comm _ _))) ?_
          refine lv_iload_n hx hb dX4_missing_68 rfl (lv_at hl 2 rfl) ?_
          refine lv_iadd hx hb dX4_missing_69 ?_
          refine k_ei (y := nI (w * 4 + t)) (nI_add _ _) ?_
          refine lv_iload hx hb dX4_missing_70 (lv_at hl 4 rfl) ?_
          refine k_iast hx hb hK hP hD hS 2 rfl (by omega) (by omega) dX4_missing_72 (fun H locs hP hD hS => ?_)
          have hP : va_P g.1 vwCl [(md 0, .inr (4, [.int (nI 0), .int (nI (gMi x)), .int (nI (gMo x)), .int (nI (gMw x)), .ref (md 1), .ref (md 2), .ref (md 3), .int (nI (gNi x)), .int (nI (gNo x)), .ref (md 4), .ref (md 5), .ref (md 6), .int (nI (gNs x)), .ref (md 7), .ref (md 8), .int (nI (gNb x)), .int (nI (gWd x)), .ref (md 9), .long (gTp x), .long (gBl x), .long (gWt x), .long (gWb x)])), (md 1, aI g 48 (upd (gLo x) (w * 4 + t) xa)), (md 2, aI g 48 (upd (gHi x) (w * 4 + t) xb)), (md 3, aZ g 12 (gTr x)), (md 4, aI g 48 (gNu x)), (md 5, aZ g 12 (gAm x)), (md 6, aJ g 13000 (gSd x)), (md 7, aJ g 85 (gBd x)), (md 8, aJ g 5 (gWy x)), (md 9, aI g 5 (fun j => nI ((gCh x) j)))] H := hP
          have hD : va_D A [(md 0, .inr (4, [.int (nI 0), .int (nI (gMi x)), .int (nI (gMo x)), .int (nI (gMw x)), .ref (md 1), .ref (md 2), .ref (md 3), .int (nI (gNi x)), .int (nI (gNo x)), .ref (md 4), .ref (md 5), .ref (md 6), .int (nI (gNs x)), .ref (md 7), .ref (md 8), .int (nI (gNb x)), .int (nI (gWd x)), .ref (md 9), .long (gTp x), .long (gBl x), .long (gWt x), .long (gWb x)])), (md 1, aI g 48 (upd (gLo x) (w * 4 + t) xa)), (md 2, aI g 48 (upd (gHi x) (w * 4 + t) xb)), (md 3, aZ g 12 (gTr x)), (md 4, aI g 48 (gNu x)), (md 5, aZ g 12 (gAm x)), (md 6, aJ g 13000 (gSd x)), (md 7, aJ g 85 (gBd x)), (md 8, aJ g 5 (gWy x)), (md 9, aI g 5 (fun j => nI ((gCh x) j)))] := hD
          refine lv_iconst (v := nI 1) hx hb dX4_missing_73 (by decide) ?_
          exact ret dX4_missing_74 ((nI 0, gMi x, gMo x, gMw x, upd (gLo x) (w * 4 + t) xa, upd (gHi x) (w * 4 + t) xb, gTr x, gNi x, gNo x, gNu x, gAm x, gSd x, gNs x, gBd x, gWy x, gNb x, gWd x, (gCh x), gTp x, gBl x, gWt x, gWb x)) (Or.inl ⟨⟨h1, h2, h3, h4⟩, rfl, by rw [wN_n hw31, wN_n ht31]; exact ⟨rfl, rfl, rfl, rfl, rfl, rfl⟩⟩) (by decide) hP hD hS
        · skip
          have hno : ¬ msmC x wk tk xa xb := fun q => absurd (bI_eq0.mp c_19) (by have := q.2.2.2; rw [this]; decide)
          refine lv_iconst (v := nI 0) hx hb dX4_missing_48 (by decide) ?_
          exact ret dX4_missing_49 ((nI 0, gMi x, gMo x, gMw x, gLo x, gHi x, gTr x, gNi x, gNo x, gNu x, gAm x, gSd x, gNs x, gBd x, gWy x, gNb x, gWd x, (gCh x), gTp x, gBl x, gWt x, gWb x)) (Or.inr ⟨hno, rfl, ⟨rfl, rfl, rfl, rfl, rfl, rfl⟩⟩) (by decide) hP hD hS
theorem iw_X4_at_X4 : ∀ w ∈ wsX40, w ∈ wsX4_at := fun w h => List.mem_cons_of_mem _ (List.mem_append_right _ h)
theorem fm_X4_at_46 : Cond.fieldLink RX4 46 "EdgeBenchModel" "thrown" "I" ∈ wsX4_at := List.mem_of_getElem? (i := 1) rfl
theorem cw_X4_at_60_0_0 {R : Room} {s : State} {args : Array Value} (hts : ∀ w ∈ wsX4_at, w.before args s = true) (hN : nsW s) (hR : 0 + 1 ≤ R.frames ∧ 8 + (2 + 11) + 0 ≤ R.locals) : CallW R s args RX4 RX4 60 yX4_isWork cX4_isWork 2 (some .boolean) wsX4_isWork { frames := 0, cells := 0, slots := 0, locals := 0 } 0 0 1 := cwV 1 hts gX4_at_X4_isWork rfl rfl rfl ⟨rfl, hdn_X4_isWork⟩ hR
theorem cw_X4_at_56_0_0 {R : Room} {s : State} {args : Array Value} (hts : ∀ w ∈ wsX4_at, w.before args s = true) (hN : nsW s) (hR : 0 + 1 ≤ R.frames ∧ 8 + (1 + 11) + 0 ≤ R.locals) : CallW R s args RX4 RX4 56 yX4_things cX4_things 1 (some .int) wsX4_things { frames := 0, cells := 0, slots := 0, locals := 0 } 0 0 0 := cwV 0 hts gX4_at_X4_things rfl rfl rfl ⟨rfl, hdn_X4_things⟩ hR
theorem cw_X4_at_52_0_0 {R : Room} {s : State} {args : Array Value} (hts : ∀ w ∈ wsX4_at, w.before args s = true) (hN : nsW s) (hR : 0 + 1 ≤ R.frames ∧ 8 + (3 + 11) + 0 ≤ R.locals) : CallB R s args RX4 52 yX4_isIn cX4_isIn 3 (some .boolean) wsX4_isIn { frames := 0, cells := 0, slots := 0, locals := 0 } 0 0 3 ∧ (Cond.static yX4_isIn).before args s = true := va_cwS 3 hts gX4_at_X4_isIn rfl rfl rfl hdn_X4_isIn hR
theorem fm_X4_at_20 : Cond.fieldLink RX4 20 "EdgeBenchModel" "high" "[I" ∈ wsX4_at := List.mem_of_getElem? (i := 3) rfl
theorem fm_X4_at_16 : Cond.fieldLink RX4 16 "EdgeBenchModel" "low" "[I" ∈ wsX4_at := List.mem_of_getElem? (i := 2) rfl
set_option maxHeartbeats 20000000 in
set_option maxRecDepth 100000 in
theorem c_X4_at (l : Launch) (g : Gt) (md : Nat → Nat) (x : MS) (wk : Int32) (tk : Int32) (wh : Int32) (hmb : mBen x) : CI l yX4_at wsX4_at { frames := 1, cells := 0, slots := 0, locals := 22 } g [.ref (md 0), .int (wk), .int (tk), .int (wh)] [(md 0, .inr (4, [.int (gXt x), .int (nI (gMi x)), .int (nI (gMo x)), .int (nI (gMw x)), .ref (md 1), .ref (md 2), .ref (md 3), .int (nI (gNi x)), .int (nI (gNo x)), .ref (md 4), .ref (md 5), .ref (md 6), .int (nI (gNs x)), .ref (md 7), .ref (md 8), .int (nI (gNb x)), .int (nI (gWd x)), .ref (md 9), .long (gTp x), .long (gBl x), .long (gWt x), .long (gWb x)])), (md 1, aI g 48 (gLo x)), (md 2, aI g 48 (gHi x)), (md 3, aZ g 12 (gTr x)), (md 4, aI g 48 (gNu x)), (md 5, aZ g 12 (gAm x)), (md 6, aJ g 13000 (gSd x)), (md 7, aJ g 85 (gBd x)), (md 8, aJ g 5 (gWy x)), (md 9, aI g 5 (fun j => nI ((gCh x) j)))] (fun zr (zu : MS) => mKeep x zu ∧ atP x wk tk wh zr) (fun (zu : MS) => [(md 0, .inr (4, [.int (gXt zu), .int (nI (gMi zu)), .int (nI (gMo zu)), .int (nI (gMw zu)), .ref (md 1), .ref (md 2), .ref (md 3), .int (nI (gNi zu)), .int (nI (gNo zu)), .ref (md 4), .ref (md 5), .ref (md 6), .int (nI (gNs zu)), .ref (md 7), .ref (md 8), .int (nI (gNb zu)), .int (nI (gWd zu)), .ref (md 9), .long (gTp zu), .long (gBl zu), .long (gWt zu), .long (gWb zu)])), (md 1, aI g 48 (gLo zu)), (md 2, aI g 48 (gHi zu)), (md 3, aZ g 12 (gTr zu)), (md 4, aI g 48 (gNu zu)), (md 5, aZ g 12 (gAm zu)), (md 6, aJ g 13000 (gSd zu)), (md 7, aJ g 85 (gBd zu)), (md 8, aJ g 5 (gWy zu)), (md 9, aI g 5 (fun j => nI ((gCh zu) j)))]) 0 0 := by
  refine ent_i (cc := cX4_at) (maxL := 4) (by decide) rfl (Nat.le_of_ble_eq_true rfl) ?_
  intro p e s m below meth c A args Q hE ret ls hl
  obtain ⟨hx, hb, hml, hown, hts, hnm, hA, hP, hD, hK, hN⟩ := hE
  have hS : va_S A s.heap s.heap [] := va_S.rf
  have hl : lv_has ls 4 [(0, .ref (md 0)), (1, .int (wk)), (2, .int (tk)), (3, .int (wh))] := hl
  have hP : va_P g.1 vwCl [(md 0, .inr (4, [.int (gXt x), .int (nI (gMi x)), .int (nI (gMo x)), .int (nI (gMw x)), .ref (md 1), .ref (md 2), .ref (md 3), .int (nI (gNi x)), .int (nI (gNo x)), .ref (md 4), .ref (md 5), .ref (md 6), .int (nI (gNs x)), .ref (md 7), .ref (md 8), .int (nI (gNb x)), .int (nI (gWd x)), .ref (md 9), .long (gTp x), .long (gBl x), .long (gWt x), .long (gWb x)])), (md 1, aI g 48 (gLo x)), (md 2, aI g 48 (gHi x)), (md 3, aZ g 12 (gTr x)), (md 4, aI g 48 (gNu x)), (md 5, aZ g 12 (gAm x)), (md 6, aJ g 13000 (gSd x)), (md 7, aJ g 85 (gBd x)), (md 8, aJ g 5 (gWy x)), (md 9, aI g 5 (fun j => nI ((gCh x) j)))] s.heap := hP
  obtain ⟨⟨hmi1, hmi⟩, ⟨hmo1, hmo⟩, hmw, htr⟩ := id hmb
  refine lv_aload_n hx hb dX4_at_0 rfl (lv_at hl 0 rfl) ?_
  refine lv_iconst (v := nI 0) hx hb dX4_at_1 (by decide) ?_
  refine k_put hx hb hts hown hK hP hD hS iw_X4_at_X4 rfl tyX4 tyX4_ok nmX4 0 0 fm_X4_at_46 (by decide) rfl rfl rfl rfl rfl (Nat.le_of_ble_eq_true rfl) dX4_at_2 (fun H locs hP hD hS => ?_)
  have hP : va_P g.1 vwCl [(md 0, .inr (4, [.int (nI 0), .int (nI (gMi x)), .int (nI (gMo x)), .int (nI (gMw x)), .ref (md 1), .ref (md 2), .ref (md 3), .int (nI (gNi x)), .int (nI (gNo x)), .ref (md 4), .ref (md 5), .ref (md 6), .int (nI (gNs x)), .ref (md 7), .ref (md 8), .int (nI (gNb x)), .int (nI (gWd x)), .ref (md 9), .long (gTp x), .long (gBl x), .long (gWt x), .long (gWb x)])), (md 1, aI g 48 (gLo x)), (md 2, aI g 48 (gHi x)), (md 3, aZ g 12 (gTr x)), (md 4, aI g 48 (gNu x)), (md 5, aZ g 12 (gAm x)), (md 6, aJ g 13000 (gSd x)), (md 7, aJ g 85 (gBd x)), (md 8, aJ g 5 (gWy x)), (md 9, aI g 5 (fun j => nI ((gCh x) j)))] H := hP
  have hD : va_D A [(md 0, .inr (4, [.int (nI 0), .int (nI (gMi x)), .int (nI (gMo x)), .int (nI (gMw x)), .ref (md 1), .ref (md 2), .ref (md 3), .int (nI (gNi x)), .int (nI (gNo x)), .ref (md 4), .ref (md 5), .ref (md 6), .int (nI (gNs x)), .ref (md 7), .ref (md 8), .int (nI (gNb x)), .int (nI (gWd x)), .ref (md 9), .long (gTp x), .long (gBl x), .long (gWt x), .long (gWb x)])), (md 1, aI g 48 (gLo x)), (md 2, aI g 48 (gHi x)), (md 3, aZ g 12 (gTr x)), (md 4, aI g 48 (gNu x)), (md 5, aZ g 12 (gAm x)), (md 6, aJ g 13000 (gSd x)), (md 7, aJ g 85 (gBd x)), (md 8, aJ g 5 (gWy x)), (md 9, aI g 5 (fun j => nI ((gCh x) j)))] := hD
  refine lv_aload_n hx hb dX4_at_5 rfl (lv_at hl 0 rfl) ?_
  refine lv_iload_n hx hb dX4_at_6 rfl (lv_at hl 1 rfl) ?_
  refine go_i (wc := [(md 0, .inr (4, [.int (nI 0), .int (nI (gMi x)), .int (nI (gMo x)), .int (nI (gMw x)), .ref (md 1), .ref (md 2), .ref (md 3), .int (nI (gNi x)), .int (nI (gNo x)), .ref (md 4), .ref (md 5), .ref (md 6), .int (nI (gNs x)), .ref (md 7), .ref (md 8), .int (nI (gNb x)), .int (nI (gWd x)), .ref (md 9), .long (gTp x), .long (gBl x), .long (gWt x), .long (gWb x)]))]) (wr := [(md 1, aI g 48 (gLo x)), (md 2, aI g 48 (gHi x)), (md 3, aZ g 12 (gTr x)), (md 4, aI g 48 (gNu x)), (md 5, aZ g 12 (gAm x)), (md 6, aJ g 13000 (gSd x)), (md 7, aJ g 85 (gBd x)), (md 8, aJ g 5 (gWy x)), (md 9, aI g 5 (fun j => nI ((gCh x) j)))]) hP hD hS hA [0] [1, 2, 3, 4, 5, 6, 7, 8, 9] rfl rfl rfl rfl (by decide) (fun hPc hDc => rn_V (As := [.int (wk)]) (rest := []) ⟨hx, hb, hml, hown, hts⟩ ((c_X4_isWork l g md (nI 0) (gMi x) (gMo x) (gMw x) (gNi x) (gNo x) (gNs x) (gNb x) (gWd x) (gTp x) (gBl x) (gWt x) (gWb x) wk (by omega)) _) (cw_X4_at_60_0_0 hts hN ⟨Nat.le_of_ble_eq_true rfl, Nat.le_of_ble_eq_true rfl⟩) hK hN hPc hDc 0 rfl rfl rfl rfl hl.1 (Nat.le_of_ble_eq_true rfl) dX4_at_7 ⟨Nat.le_of_ble_eq_true rfl, Nat.le_of_ble_eq_true rfl⟩) ?_
  intro r_1 u_2 H locs h_3 hP hD hS
  have hP : va_P g.1 vwCl [(md 0, .inr (4, [.int (nI 0), .int (nI (gMi x)), .int (nI (gMo x)), .int (nI (gMw x)), .ref (md 1), .ref (md 2), .ref (md 3), .int (nI (gNi x)), .int (nI (gNo x)), .ref (md 4), .ref (md 5), .ref (md 6), .int (nI (gNs x)), .ref (md 7), .ref (md 8), .int (nI (gNb x)), .int (nI (gWd x)), .ref (md 9), .long (gTp x), .long (gBl x), .long (gWt x), .long (gWb x)])), (md 1, aI g 48 (gLo x)), (md 2, aI g 48 (gHi x)), (md 3, aZ g 12 (gTr x)), (md 4, aI g 48 (gNu x)), (md 5, aZ g 12 (gAm x)), (md 6, aJ g 13000 (gSd x)), (md 7, aJ g 85 (gBd x)), (md 8, aJ g 5 (gWy x)), (md 9, aI g 5 (fun j => nI ((gCh x) j)))] H := hP.sub [9, 0, 1, 2, 3, 4, 5, 6, 7, 8] rfl
  have hD : va_D A [(md 0, .inr (4, [.int (nI 0), .int (nI (gMi x)), .int (nI (gMo x)), .int (nI (gMw x)), .ref (md 1), .ref (md 2), .ref (md 3), .int (nI (gNi x)), .int (nI (gNo x)), .ref (md 4), .ref (md 5), .ref (md 6), .int (nI (gNs x)), .ref (md 7), .ref (md 8), .int (nI (gNb x)), .int (nI (gWd x)), .ref (md 9), .long (gTp x), .long (gBl x), .long (gWt x), .long (gWb x)])), (md 1, aI g 48 (gLo x)), (md 2, aI g 48 (gHi x)), (md 3, aZ g 12 (gTr x)), (md 4, aI g 48 (gNu x)), (md 5, aZ g 12 (gAm x)), (md 6, aJ g 13000 (gSd x)), (md 7, aJ g 85 (gBd x)), (md 8, aJ g 5 (gWy x)), (md 9, aI g 5 (fun j => nI ((gCh x) j)))] := hD.sub [9, 0, 1, 2, 3, 4, 5, 6, 7, 8] rfl rfl
  have h_3 : r_1 = bI (inR wk (gMw x)) := h_3
  subst h_3
  refine lv_if_eq (tgt := 36) hx hb dX4_at_10 (by decide) (fun c_4 => ?_) (fun c_4 => ?_)
  · skip
    have hno : ¬ atC x wk tk wh := fun q => absurd (bI_eq0.mp c_4) (by have := q.1; rw [this]; decide)
    refine lv_iconst (v := -1) hx hb dX4_at_36 (by decide) ?_
    exact ret dX4_at_37 ((nI 0, gMi x, gMo x, gMw x, gLo x, gHi x, gTr x, gNi x, gNo x, gNu x, gAm x, gSd x, gNs x, gBd x, gWy x, gNb x, gWd x, (gCh x), gTp x, gBl x, gWt x, gWb x)) (⟨⟨rfl, rfl, rfl, rfl, rfl, rfl⟩, Or.inr ⟨hno, rfl⟩⟩) hP hD hS
  · skip
    have h1 := bI_ne0.mp c_4
    refine lv_iload_n hx hb dX4_at_13 rfl (lv_at hl 2 rfl) ?_
    refine lv_iconst (v := nI 0) hx hb dX4_at_14 (by decide) ?_
    refine lv_aload_n hx hb dX4_at_15 rfl (lv_at hl 0 rfl) ?_
    refine go_i (wc := [(md 0, .inr (4, [.int (nI 0), .int (nI (gMi x)), .int (nI (gMo x)), .int (nI (gMw x)), .ref (md 1), .ref (md 2), .ref (md 3), .int (nI (gNi x)), .int (nI (gNo x)), .ref (md 4), .ref (md 5), .ref (md 6), .int (nI (gNs x)), .ref (md 7), .ref (md 8), .int (nI (gNb x)), .int (nI (gWd x)), .ref (md 9), .long (gTp x), .long (gBl x), .long (gWt x), .long (gWb x)]))]) (wr := [(md 1, aI g 48 (gLo x)), (md 2, aI g 48 (gHi x)), (md 3, aZ g 12 (gTr x)), (md 4, aI g 48 (gNu x)), (md 5, aZ g 12 (gAm x)), (md 6, aJ g 13000 (gSd x)), (md 7, aJ g 85 (gBd x)), (md 8, aJ g 5 (gWy x)), (md 9, aI g 5 (fun j => nI ((gCh x) j)))]) hP hD hS hA [0] [1, 2, 3, 4, 5, 6, 7, 8, 9] rfl rfl rfl rfl (by decide) (fun hPc hDc => rn_V (As := []) (rest := [.int (nI 0), .int (tk)]) ⟨hx, hb, hml, hown, hts⟩ ((c_X4_things l g md (nI 0) (gMi x) (gMo x) (gMw x) (gNi x) (gNo x) (gNs x) (gNb x) (gWd x) (gTp x) (gBl x) (gWt x) (gWb x) ) _) (cw_X4_at_56_0_0 hts hN ⟨Nat.le_of_ble_eq_true rfl, Nat.le_of_ble_eq_true rfl⟩) hK hN hPc hDc 0 rfl rfl rfl rfl hl.1 (Nat.le_of_ble_eq_true rfl) dX4_at_16 ⟨Nat.le_of_ble_eq_true rfl, Nat.le_of_ble_eq_true rfl⟩) ?_
    intro r_5 u_6 H locs h_7 hP hD hS
    have hP : va_P g.1 vwCl [(md 0, .inr (4, [.int (nI 0), .int (nI (gMi x)), .int (nI (gMo x)), .int (nI (gMw x)), .ref (md 1), .ref (md 2), .ref (md 3), .int (nI (gNi x)), .int (nI (gNo x)), .ref (md 4), .ref (md 5), .ref (md 6), .int (nI (gNs x)), .ref (md 7), .ref (md 8), .int (nI (gNb x)), .int (nI (gWd x)), .ref (md 9), .long (gTp x), .long (gBl x), .long (gWt x), .long (gWb x)])), (md 1, aI g 48 (gLo x)), (md 2, aI g 48 (gHi x)), (md 3, aZ g 12 (gTr x)), (md 4, aI g 48 (gNu x)), (md 5, aZ g 12 (gAm x)), (md 6, aJ g 13000 (gSd x)), (md 7, aJ g 85 (gBd x)), (md 8, aJ g 5 (gWy x)), (md 9, aI g 5 (fun j => nI ((gCh x) j)))] H := hP.sub [9, 0, 1, 2, 3, 4, 5, 6, 7, 8] rfl
    have hD : va_D A [(md 0, .inr (4, [.int (nI 0), .int (nI (gMi x)), .int (nI (gMo x)), .int (nI (gMw x)), .ref (md 1), .ref (md 2), .ref (md 3), .int (nI (gNi x)), .int (nI (gNo x)), .ref (md 4), .ref (md 5), .ref (md 6), .int (nI (gNs x)), .ref (md 7), .ref (md 8), .int (nI (gNb x)), .int (nI (gWd x)), .ref (md 9), .long (gTp x), .long (gBl x), .long (gWt x), .long (gWb x)])), (md 1, aI g 48 (gLo x)), (md 2, aI g 48 (gHi x)), (md 3, aZ g 12 (gTr x)), (md 4, aI g 48 (gNu x)), (md 5, aZ g 12 (gAm x)), (md 6, aJ g 13000 (gSd x)), (md 7, aJ g 85 (gBd x)), (md 8, aJ g 5 (gWy x)), (md 9, aI g 5 (fun j => nI ((gCh x) j)))] := hD.sub [9, 0, 1, 2, 3, 4, 5, 6, 7, 8] rfl rfl
    have h_7 : r_5 = nI ((gMi x) + (gMo x)) := h_7
    subst h_7
    refine lv_iconst (v := nI 1) hx hb dX4_at_19 (by decide) ?_
    refine lv_isub hx hb dX4_at_20 ?_
    refine k_ei (y := nI (((gMi x) + (gMo x)) - 1)) (pk_sub (by omega)) ?_
    refine go_i (wc := []) (wr := [(md 0, .inr (4, [.int (nI 0), .int (nI (gMi x)), .int (nI (gMo x)), .int (nI (gMw x)), .ref (md 1), .ref (md 2), .ref (md 3), .int (nI (gNi x)), .int (nI (gNo x)), .ref (md 4), .ref (md 5), .ref (md 6), .int (nI (gNs x)), .ref (md 7), .ref (md 8), .int (nI (gNb x)), .int (nI (gWd x)), .ref (md 9), .long (gTp x), .long (gBl x), .long (gWt x), .long (gWb x)])), (md 1, aI g 48 (gLo x)), (md 2, aI g 48 (gHi x)), (md 3, aZ g 12 (gTr x)), (md 4, aI g 48 (gNu x)), (md 5, aZ g 12 (gAm x)), (md 6, aJ g 13000 (gSd x)), (md 7, aJ g 85 (gBd x)), (md 8, aJ g 5 (gWy x)), (md 9, aI g 5 (fun j => nI ((gCh x) j)))]) hP hD hS hA [] [0, 1, 2, 3, 4, 5, 6, 7, 8, 9] rfl rfl rfl rfl (by decide) (fun hPc hDc => rn_S (As := [.int (tk), .int (nI 0), .int (nI (((gMi x) + (gMo x)) - 1))]) (rest := []) ⟨hx, hb, hml, hown, hts⟩ ((c_X4_isIn l g tk (nI 0) (nI (((gMi x) + (gMo x)) - 1)) ) _) (cw_X4_at_52_0_0 hts hN ⟨Nat.le_of_ble_eq_true rfl, Nat.le_of_ble_eq_true rfl⟩) hK hN hPc hDc rfl rfl hl.1 (Nat.le_of_ble_eq_true rfl) dX4_at_21 ⟨Nat.le_of_ble_eq_true rfl, Nat.le_of_ble_eq_true rfl⟩) ?_
    intro r_8 u_9 H locs h_10 hP hD hS
    have hP : va_P g.1 vwCl [(md 0, .inr (4, [.int (nI 0), .int (nI (gMi x)), .int (nI (gMo x)), .int (nI (gMw x)), .ref (md 1), .ref (md 2), .ref (md 3), .int (nI (gNi x)), .int (nI (gNo x)), .ref (md 4), .ref (md 5), .ref (md 6), .int (nI (gNs x)), .ref (md 7), .ref (md 8), .int (nI (gNb x)), .int (nI (gWd x)), .ref (md 9), .long (gTp x), .long (gBl x), .long (gWt x), .long (gWb x)])), (md 1, aI g 48 (gLo x)), (md 2, aI g 48 (gHi x)), (md 3, aZ g 12 (gTr x)), (md 4, aI g 48 (gNu x)), (md 5, aZ g 12 (gAm x)), (md 6, aJ g 13000 (gSd x)), (md 7, aJ g 85 (gBd x)), (md 8, aJ g 5 (gWy x)), (md 9, aI g 5 (fun j => nI ((gCh x) j)))] H := hP.sub [0, 1, 2, 3, 4, 5, 6, 7, 8, 9] rfl
    have hD : va_D A [(md 0, .inr (4, [.int (nI 0), .int (nI (gMi x)), .int (nI (gMo x)), .int (nI (gMw x)), .ref (md 1), .ref (md 2), .ref (md 3), .int (nI (gNi x)), .int (nI (gNo x)), .ref (md 4), .ref (md 5), .ref (md 6), .int (nI (gNs x)), .ref (md 7), .ref (md 8), .int (nI (gNb x)), .int (nI (gWd x)), .ref (md 9), .long (gTp x), .long (gBl x), .long (gWt x), .long (gWb x)])), (md 1, aI g 48 (gLo x)), (md 2, aI g 48 (gHi x)), (md 3, aZ g 12 (gTr x)), (md 4, aI g 48 (gNu x)), (md 5, aZ g 12 (gAm x)), (md 6, aJ g 13000 (gSd x)), (md 7, aJ g 85 (gBd x)), (md 8, aJ g 5 (gWy x)), (md 9, aI g 5 (fun j => nI ((gCh x) j)))] := hD.sub [0, 1, 2, 3, 4, 5, 6, 7, 8, 9] rfl rfl
    have h_10 : r_8 = bI (isI tk (nI 0) (nI (((gMi x) + (gMo x)) - 1))) := h_10
    subst h_10
    refine lv_if_eq (tgt := 36) hx hb dX4_at_24 (by decide) (fun c_11 => ?_) (fun c_11 => ?_)
    · skip
      have hno : ¬ atC x wk tk wh := fun q => absurd (bI_eq0.mp c_11) (by have := q.2.1; rw [this]; decide)
      refine lv_iconst (v := -1) hx hb dX4_at_36 (by decide) ?_
      exact ret dX4_at_37 ((nI 0, gMi x, gMo x, gMw x, gLo x, gHi x, gTr x, gNi x, gNo x, gNu x, gAm x, gSd x, gNs x, gBd x, gWy x, gNb x, gWd x, (gCh x), gTp x, gBl x, gWt x, gWb x)) (⟨⟨rfl, rfl, rfl, rfl, rfl, rfl⟩, Or.inr ⟨hno, rfl⟩⟩) hP hD hS
    · skip
      have h2 := bI_ne0.mp c_11
      refine lv_iload_n hx hb dX4_at_27 rfl (lv_at hl 3 rfl) ?_
      refine lv_iconst (v := nI 0) hx hb dX4_at_28 (by decide) ?_
      refine lv_iconst (v := nI 1) hx hb dX4_at_29 (by decide) ?_
      refine go_i (wc := []) (wr := [(md 0, .inr (4, [.int (nI 0), .int (nI (gMi x)), .int (nI (gMo x)), .int (nI (gMw x)), .ref (md 1), .ref (md 2), .ref (md 3), .int (nI (gNi x)), .int (nI (gNo x)), .ref (md 4), .ref (md 5), .ref (md 6), .int (nI (gNs x)), .ref (md 7), .ref (md 8), .int (nI (gNb x)), .int (nI (gWd x)), .ref (md 9), .long (gTp x), .long (gBl x), .long (gWt x), .long (gWb x)])), (md 1, aI g 48 (gLo x)), (md 2, aI g 48 (gHi x)), (md 3, aZ g 12 (gTr x)), (md 4, aI g 48 (gNu x)), (md 5, aZ g 12 (gAm x)), (md 6, aJ g 13000 (gSd x)), (md 7, aJ g 85 (gBd x)), (md 8, aJ g 5 (gWy x)), (md 9, aI g 5 (fun j => nI ((gCh x) j)))]) hP hD hS hA [] [0, 1, 2, 3, 4, 5, 6, 7, 8, 9] rfl rfl rfl rfl (by decide) (fun hPc hDc => rn_S (As := [.int (wh), .int (nI 0), .int (nI 1)]) (rest := []) ⟨hx, hb, hml, hown, hts⟩ ((c_X4_isIn l g wh (nI 0) (nI 1) ) _) (cw_X4_at_52_0_0 hts hN ⟨Nat.le_of_ble_eq_true rfl, Nat.le_of_ble_eq_true rfl⟩) hK hN hPc hDc rfl rfl hl.1 (Nat.le_of_ble_eq_true rfl) dX4_at_30 ⟨Nat.le_of_ble_eq_true rfl, Nat.le_of_ble_eq_true rfl⟩) ?_
      intro r_12 u_13 H locs h_14 hP hD hS
      have hP : va_P g.1 vwCl [(md 0, .inr (4, [.int (nI 0), .int (nI (gMi x)), .int (nI (gMo x)), .int (nI (gMw x)), .ref (md 1), .ref (md 2), .ref (md 3), .int (nI (gNi x)), .int (nI (gNo x)), .ref (md 4), .ref (md 5), .ref (md 6), .int (nI (gNs x)), .ref (md 7), .ref (md 8), .int (nI (gNb x)), .int (nI (gWd x)), .ref (md 9), .long (gTp x), .long (gBl x), .long (gWt x), .long (gWb x)])), (md 1, aI g 48 (gLo x)), (md 2, aI g 48 (gHi x)), (md 3, aZ g 12 (gTr x)), (md 4, aI g 48 (gNu x)), (md 5, aZ g 12 (gAm x)), (md 6, aJ g 13000 (gSd x)), (md 7, aJ g 85 (gBd x)), (md 8, aJ g 5 (gWy x)), (md 9, aI g 5 (fun j => nI ((gCh x) j)))] H := hP.sub [0, 1, 2, 3, 4, 5, 6, 7, 8, 9] rfl
      have hD : va_D A [(md 0, .inr (4, [.int (nI 0), .int (nI (gMi x)), .int (nI (gMo x)), .int (nI (gMw x)), .ref (md 1), .ref (md 2), .ref (md 3), .int (nI (gNi x)), .int (nI (gNo x)), .ref (md 4), .ref (md 5), .ref (md 6), .int (nI (gNs x)), .ref (md 7), .ref (md 8), .int (nI (gNb x)), .int (nI (gWd x)), .ref (md 9), .long (gTp x), .long (gBl x), .long (gWt x), .long (gWb x)])), (md 1, aI g 48 (gLo x)), (md 2, aI g 48 (gHi x)), (md 3, aZ g 12 (gTr x)), (md 4, aI g 48 (gNu x)), (md 5, aZ g 12 (gAm x)), (md 6, aJ g 13000 (gSd x)), (md 7, aJ g 85 (gBd x)), (md 8, aJ g 5 (gWy x)), (md 9, aI g 5 (fun j => nI ((gCh x) j)))] := hD.sub [0, 1, 2, 3, 4, 5, 6, 7, 8, 9] rfl rfl
      have h_14 : r_12 = bI (isI wh (nI 0) (nI 1)) := h_14
      subst h_14
      refine lv_if_ne (tgt := 38) hx hb dX4_at_33 (by decide) (fun c_15 => ?_) (fun c_15 => ?_)
      · skip
        have h3 := bI_ne0.mp c_15
        obtain ⟨w, hw, hw31, hww⟩ := inR_nI h1
        obtain ⟨t, htt, ht1, ht2, ht31⟩ := isI_get (by decide) (by omega) h2
        subst hww
        subst htt
        refine lv_iload_n hx hb dX4_at_38 rfl (lv_at hl 3 rfl) ?_
        refine lv_if_ne (tgt := 55) hx hb dX4_at_39 (by decide) (fun c_16 => ?_) (fun c_16 => ?_)
        · skip
          have h4 := c_16
          refine lv_aload_n hx hb dX4_at_55 rfl (lv_at hl 0 rfl) ?_
          refine k_get hx hb hts hown hK hP iw_X4_at_X4 rfl 0 5 fm_X4_at_20 (by decide) rfl rfl dX4_at_56 ?_
          refine lv_iconst (v := nI 4) hx hb dX4_at_59 (by decide) ?_
          refine lv_iload_n hx hb dX4_at_60 rfl (lv_at hl 1 rfl) ?_
          refine lv_imul hx hb dX4_at_61 ?_
          refine k_ei (y := nI (w * 4)) ((pk_mul _ _).trans (congrArg nI (Nat.mul_comm _ _))) ?_
          refine lv_iload_n hx hb dX4_at_62 rfl (lv_at hl 2 rfl) ?_
          refine lv_iadd hx hb dX4_at_63 ?_
          refine k_ei (y := nI (w * 4 + t)) (nI_add _ _) ?_
          refine k_iald hx hb hK hP 2 rfl (by omega) (by omega) dX4_at_64 ?_
          exact ret dX4_at_65 ((nI 0, gMi x, gMo x, gMw x, gLo x, gHi x, gTr x, gNi x, gNo x, gNu x, gAm x, gSd x, gNs x, gBd x, gWy x, gNb x, gWd x, (gCh x), gTp x, gBl x, gWt x, gWb x)) (⟨⟨rfl, rfl, rfl, rfl, rfl, rfl⟩, Or.inl ⟨⟨h1, h2, h3⟩, Or.inr ⟨h4, by rw [wN_n hw31, wN_n ht31]⟩⟩⟩) hP hD hS
        · skip
          have h4 := c_16
          refine lv_aload_n hx hb dX4_at_42 rfl (lv_at hl 0 rfl) ?_
          refine k_get hx hb hts hown hK hP iw_X4_at_X4 rfl 0 4 fm_X4_at_16 (by decide) rfl rfl dX4_at_43 ?_
          refine lv_iconst (v := nI 4) hx hb dX4_at_46 (by decide) ?_
          refine lv_iload_n hx hb dX4_at_47 rfl (lv_at hl 1 rfl) ?_
          refine lv_imul hx hb dX4_at_48 ?_
          refine k_ei (y := nI (w * 4)) ((pk_mul _ _).trans (congrArg nI (Nat.mul_comm _ _))) ?_
          refine lv_iload_n hx hb dX4_at_49 rfl (lv_at hl 2 rfl) ?_
          refine lv_iadd hx hb dX4_at_50 ?_
          refine k_ei (y := nI (w * 4 + t)) (nI_add _ _) ?_
          refine k_iald hx hb hK hP 1 rfl (by omega) (by omega) dX4_at_51 ?_
          refine lv_goto (tgt := 65) hx hb dX4_at_52 (by decide) ?_
          exact ret dX4_at_65 ((nI 0, gMi x, gMo x, gMw x, gLo x, gHi x, gTr x, gNi x, gNo x, gNu x, gAm x, gSd x, gNs x, gBd x, gWy x, gNb x, gWd x, (gCh x), gTp x, gBl x, gWt x, gWb x)) (⟨⟨rfl, rfl, rfl, rfl, rfl, rfl⟩, Or.inl ⟨⟨h1, h2, h3⟩, Or.inl ⟨h4, by rw [wN_n hw31, wN_n ht31]⟩⟩⟩) hP hD hS
      · skip
        have hno : ¬ atC x wk tk wh := fun q => absurd (bI_eq0.mp c_15) (by have := q.2.2; rw [this]; decide)
        refine lv_iconst (v := -1) hx hb dX4_at_36 (by decide) ?_
        exact ret dX4_at_37 ((nI 0, gMi x, gMo x, gMw x, gLo x, gHi x, gTr x, gNi x, gNo x, gNu x, gAm x, gSd x, gNs x, gBd x, gWy x, gNb x, gWd x, (gCh x), gTp x, gBl x, gWt x, gWb x)) (⟨⟨rfl, rfl, rfl, rfl, rfl, rfl⟩, Or.inr ⟨hno, rfl⟩⟩) hP hD hS
theorem iw_X4_work_X4 : ∀ w ∈ wsX40, w ∈ wsX4_work := fun w h => List.mem_cons_of_mem _ (List.mem_append_right _ h)
theorem fm_X4_work_46 : Cond.fieldLink RX4 46 "EdgeBenchModel" "thrown" "I" ∈ wsX4_work := List.mem_of_getElem? (i := 1) rfl
theorem cw_X4_work_56_0_0 {R : Room} {s : State} {args : Array Value} (hts : ∀ w ∈ wsX4_work, w.before args s = true) (hN : nsW s) (hR : 0 + 1 ≤ R.frames ∧ 8 + (1 + 11) + 0 ≤ R.locals) : CallW R s args RX4 RX4 56 yX4_things cX4_things 1 (some .int) wsX4_things { frames := 0, cells := 0, slots := 0, locals := 0 } 0 0 0 := cwV 0 hts gX4_work_X4_things rfl rfl rfl ⟨rfl, hdn_X4_things⟩ hR
theorem fm_X4_work_49 : Cond.fieldLink RX4 49 "EdgeBenchModel" "works" "I" ∈ wsX4_work := List.mem_of_getElem? (i := 4) rfl
theorem fm_X4_work_23 : Cond.fieldLink RX4 23 "EdgeBenchModel" "there" "[Z" ∈ wsX4_work := List.mem_of_getElem? (i := 7) rfl
theorem fm_X4_work_16 : Cond.fieldLink RX4 16 "EdgeBenchModel" "low" "[I" ∈ wsX4_work := List.mem_of_getElem? (i := 5) rfl
theorem fm_X4_work_20 : Cond.fieldLink RX4 20 "EdgeBenchModel" "high" "[I" ∈ wsX4_work := List.mem_of_getElem? (i := 6) rfl
theorem cw_X4_work_52_0_0 {R : Room} {s : State} {args : Array Value} (hts : ∀ w ∈ wsX4_work, w.before args s = true) (hN : nsW s) (hR : 0 + 1 ≤ R.frames ∧ 8 + (3 + 11) + 0 ≤ R.locals) : CallB R s args RX4 52 yX4_isIn cX4_isIn 3 (some .boolean) wsX4_isIn { frames := 0, cells := 0, slots := 0, locals := 0 } 0 0 3 ∧ (Cond.static yX4_isIn).before args s = true := va_cwS 3 hts gX4_work_X4_isIn rfl rfl rfl hdn_X4_isIn hR
theorem fm_X4_work_9 : Cond.fieldLink RX4 9 "EdgeBenchModel" "ins" "I" ∈ wsX4_work := List.mem_of_getElem? (i := 3) rfl
set_option maxHeartbeats 20000000 in
set_option maxRecDepth 100000 in
theorem c_X4_work (l : Launch) (g : Gt) (md : Nat → Nat) (x : MS) (xa : Int32) (xb : Int32) (xc : Int32) (xd : Int32) (hmb : mBen x) : CI l yX4_work wsX4_work { frames := 1, cells := 1, slots := 4, locals := 22 } g [.ref (md 0), .int (xa), .int (xb), .int (xc), .int (xd)] [(md 0, .inr (4, [.int (gXt x), .int (nI (gMi x)), .int (nI (gMo x)), .int (nI (gMw x)), .ref (md 1), .ref (md 2), .ref (md 3), .int (nI (gNi x)), .int (nI (gNo x)), .ref (md 4), .ref (md 5), .ref (md 6), .int (nI (gNs x)), .ref (md 7), .ref (md 8), .int (nI (gNb x)), .int (nI (gWd x)), .ref (md 9), .long (gTp x), .long (gBl x), .long (gWt x), .long (gWb x)])), (md 1, aI g 48 (gLo x)), (md 2, aI g 48 (gHi x)), (md 3, aZ g 12 (gTr x)), (md 4, aI g 48 (gNu x)), (md 5, aZ g 12 (gAm x)), (md 6, aJ g 13000 (gSd x)), (md 7, aJ g 85 (gBd x)), (md 8, aJ g 5 (gWy x)), (md 9, aI g 5 (fun j => nI ((gCh x) j)))] (fun zr (zu : MS) => wokM x zu xa xb xc xd zr) (fun (zu : MS) => [(md 0, .inr (4, [.int (gXt zu), .int (nI (gMi zu)), .int (nI (gMo zu)), .int (nI (gMw zu)), .ref (md 1), .ref (md 2), .ref (md 3), .int (nI (gNi zu)), .int (nI (gNo zu)), .ref (md 4), .ref (md 5), .ref (md 6), .int (nI (gNs zu)), .ref (md 7), .ref (md 8), .int (nI (gNb zu)), .int (nI (gWd zu)), .ref (md 9), .long (gTp zu), .long (gBl zu), .long (gWt zu), .long (gWb zu)])), (md 1, aI g 48 (gLo zu)), (md 2, aI g 48 (gHi zu)), (md 3, aZ g 12 (gTr zu)), (md 4, aI g 48 (gNu zu)), (md 5, aZ g 12 (gAm zu)), (md 6, aJ g 13000 (gSd zu)), (md 7, aJ g 85 (gBd zu)), (md 8, aJ g 5 (gWy zu)), (md 9, aI g 5 (fun j => nI ((gCh zu) j)))]) 1 4 := by
  refine ent_i (cc := cX4_work) (maxL := 9) (by decide) rfl (Nat.le_of_ble_eq_true rfl) ?_
  intro p e s m below meth c A args Q hE ret ls hl
  obtain ⟨hx, hb, hml, hown, hts, hnm, hA, hP, hD, hK, hN⟩ := hE
  have hS : va_S A s.heap s.heap [] := va_S.rf
  have hl : lv_has ls 9 [(0, .ref (md 0)), (1, .int (xa)), (2, .int (xb)), (3, .int (xc)), (4, .int (xd))] := hl
  have hP : va_P g.1 vwCl [(md 0, .inr (4, [.int (gXt x), .int (nI (gMi x)), .int (nI (gMo x)), .int (nI (gMw x)), .ref (md 1), .ref (md 2), .ref (md 3), .int (nI (gNi x)), .int (nI (gNo x)), .ref (md 4), .ref (md 5), .ref (md 6), .int (nI (gNs x)), .ref (md 7), .ref (md 8), .int (nI (gNb x)), .int (nI (gWd x)), .ref (md 9), .long (gTp x), .long (gBl x), .long (gWt x), .long (gWb x)])), (md 1, aI g 48 (gLo x)), (md 2, aI g 48 (gHi x)), (md 3, aZ g 12 (gTr x)), (md 4, aI g 48 (gNu x)), (md 5, aZ g 12 (gAm x)), (md 6, aJ g 13000 (gSd x)), (md 7, aJ g 85 (gBd x)), (md 8, aJ g 5 (gWy x)), (md 9, aI g 5 (fun j => nI ((gCh x) j)))] s.heap := hP
  obtain ⟨⟨hmi1, hmi⟩, ⟨hmo1, hmo⟩, hmw, htr⟩ := id hmb
  refine lv_aload_n hx hb dX4_work_0 rfl (lv_at hl 0 rfl) ?_
  refine lv_iconst (v := nI 0) hx hb dX4_work_1 (by decide) ?_
  refine k_put hx hb hts hown hK hP hD hS iw_X4_work_X4 rfl tyX4 tyX4_ok nmX4 0 0 fm_X4_work_46 (by decide) rfl rfl rfl rfl rfl (Nat.le_of_ble_eq_true rfl) dX4_work_2 (fun H locs hP hD hS => ?_)
  have hP : va_P g.1 vwCl [(md 0, .inr (4, [.int (nI 0), .int (nI (gMi x)), .int (nI (gMo x)), .int (nI (gMw x)), .ref (md 1), .ref (md 2), .ref (md 3), .int (nI (gNi x)), .int (nI (gNo x)), .ref (md 4), .ref (md 5), .ref (md 6), .int (nI (gNs x)), .ref (md 7), .ref (md 8), .int (nI (gNb x)), .int (nI (gWd x)), .ref (md 9), .long (gTp x), .long (gBl x), .long (gWt x), .long (gWb x)])), (md 1, aI g 48 (gLo x)), (md 2, aI g 48 (gHi x)), (md 3, aZ g 12 (gTr x)), (md 4, aI g 48 (gNu x)), (md 5, aZ g 12 (gAm x)), (md 6, aJ g 13000 (gSd x)), (md 7, aJ g 85 (gBd x)), (md 8, aJ g 5 (gWy x)), (md 9, aI g 5 (fun j => nI ((gCh x) j)))] H := hP
  have hD : va_D A [(md 0, .inr (4, [.int (nI 0), .int (nI (gMi x)), .int (nI (gMo x)), .int (nI (gMw x)), .ref (md 1), .ref (md 2), .ref (md 3), .int (nI (gNi x)), .int (nI (gNo x)), .ref (md 4), .ref (md 5), .ref (md 6), .int (nI (gNs x)), .ref (md 7), .ref (md 8), .int (nI (gNb x)), .int (nI (gWd x)), .ref (md 9), .long (gTp x), .long (gBl x), .long (gWt x), .long (gWb x)])), (md 1, aI g 48 (gLo x)), (md 2, aI g 48 (gHi x)), (md 3, aZ g 12 (gTr x)), (md 4, aI g 48 (gNu x)), (md 5, aZ g 12 (gAm x)), (md 6, aJ g 13000 (gSd x)), (md 7, aJ g 85 (gBd x)), (md 8, aJ g 5 (gWy x)), (md 9, aI g 5 (fun j => nI ((gCh x) j)))] := hD
  refine lv_iconst (v := nI 4) hx hb dX4_work_5 (by decide) ?_
  refine k_newI hx hb (hts (.arrayClass .int) (by decide +kernel)) hK hP hD hS hA (n := 4) (by decide) (Nat.le_of_ble_eq_true rfl) (Nat.le_of_ble_eq_true rfl) dX4_work_6 (fun q_1 H hP hD hS => ?_)
  have hP : va_P g.1 vwCl [(md 0, .inr (4, [.int (nI 0), .int (nI (gMi x)), .int (nI (gMo x)), .int (nI (gMw x)), .ref (md 1), .ref (md 2), .ref (md 3), .int (nI (gNi x)), .int (nI (gNo x)), .ref (md 4), .ref (md 5), .ref (md 6), .int (nI (gNs x)), .ref (md 7), .ref (md 8), .int (nI (gNb x)), .int (nI (gWd x)), .ref (md 9), .long (gTp x), .long (gBl x), .long (gWt x), .long (gWb x)])), (md 1, aI g 48 (gLo x)), (md 2, aI g 48 (gHi x)), (md 3, aZ g 12 (gTr x)), (md 4, aI g 48 (gNu x)), (md 5, aZ g 12 (gAm x)), (md 6, aJ g 13000 (gSd x)), (md 7, aJ g 85 (gBd x)), (md 8, aJ g 5 (gWy x)), (md 9, aI g 5 (fun j => nI ((gCh x) j))), (q_1, aI g 4 (fun _ => 0))] H := hP
  have hD : va_D A [(md 0, .inr (4, [.int (nI 0), .int (nI (gMi x)), .int (nI (gMo x)), .int (nI (gMw x)), .ref (md 1), .ref (md 2), .ref (md 3), .int (nI (gNi x)), .int (nI (gNo x)), .ref (md 4), .ref (md 5), .ref (md 6), .int (nI (gNs x)), .ref (md 7), .ref (md 8), .int (nI (gNb x)), .int (nI (gWd x)), .ref (md 9), .long (gTp x), .long (gBl x), .long (gWt x), .long (gWb x)])), (md 1, aI g 48 (gLo x)), (md 2, aI g 48 (gHi x)), (md 3, aZ g 12 (gTr x)), (md 4, aI g 48 (gNu x)), (md 5, aZ g 12 (gAm x)), (md 6, aJ g 13000 (gSd x)), (md 7, aJ g 85 (gBd x)), (md 8, aJ g 5 (gWy x)), (md 9, aI g 5 (fun j => nI ((gCh x) j))), (q_1, aI g 4 (fun _ => 0))] := hD
  refine lv_dup hx hb dX4_work_8 rfl ?_
  refine lv_iconst (v := nI 0) hx hb dX4_work_9 (by decide) ?_
  refine lv_iload_n hx hb dX4_work_10 rfl (lv_at hl 1 rfl) ?_
  refine k_iast hx hb hK hP hD hS 10 rfl (by omega) (by omega) dX4_work_11 (fun H locs hP hD hS => ?_)
  have hP : va_P g.1 vwCl [(md 0, .inr (4, [.int (nI 0), .int (nI (gMi x)), .int (nI (gMo x)), .int (nI (gMw x)), .ref (md 1), .ref (md 2), .ref (md 3), .int (nI (gNi x)), .int (nI (gNo x)), .ref (md 4), .ref (md 5), .ref (md 6), .int (nI (gNs x)), .ref (md 7), .ref (md 8), .int (nI (gNb x)), .int (nI (gWd x)), .ref (md 9), .long (gTp x), .long (gBl x), .long (gWt x), .long (gWb x)])), (md 1, aI g 48 (gLo x)), (md 2, aI g 48 (gHi x)), (md 3, aZ g 12 (gTr x)), (md 4, aI g 48 (gNu x)), (md 5, aZ g 12 (gAm x)), (md 6, aJ g 13000 (gSd x)), (md 7, aJ g 85 (gBd x)), (md 8, aJ g 5 (gWy x)), (md 9, aI g 5 (fun j => nI ((gCh x) j))), (q_1, aI g 4 (upd (fun _ => 0) 0 xa))] H := hP
  have hD : va_D A [(md 0, .inr (4, [.int (nI 0), .int (nI (gMi x)), .int (nI (gMo x)), .int (nI (gMw x)), .ref (md 1), .ref (md 2), .ref (md 3), .int (nI (gNi x)), .int (nI (gNo x)), .ref (md 4), .ref (md 5), .ref (md 6), .int (nI (gNs x)), .ref (md 7), .ref (md 8), .int (nI (gNb x)), .int (nI (gWd x)), .ref (md 9), .long (gTp x), .long (gBl x), .long (gWt x), .long (gWb x)])), (md 1, aI g 48 (gLo x)), (md 2, aI g 48 (gHi x)), (md 3, aZ g 12 (gTr x)), (md 4, aI g 48 (gNu x)), (md 5, aZ g 12 (gAm x)), (md 6, aJ g 13000 (gSd x)), (md 7, aJ g 85 (gBd x)), (md 8, aJ g 5 (gWy x)), (md 9, aI g 5 (fun j => nI ((gCh x) j))), (q_1, aI g 4 (upd (fun _ => 0) 0 xa))] := hD
  refine lv_dup hx hb dX4_work_12 rfl ?_
  refine lv_iconst (v := nI 1) hx hb dX4_work_13 (by decide) ?_
  refine lv_iload_n hx hb dX4_work_14 rfl (lv_at hl 2 rfl) ?_
  refine k_iast hx hb hK hP hD hS 10 rfl (by omega) (by omega) dX4_work_15 (fun H locs hP hD hS => ?_)
  have hP : va_P g.1 vwCl [(md 0, .inr (4, [.int (nI 0), .int (nI (gMi x)), .int (nI (gMo x)), .int (nI (gMw x)), .ref (md 1), .ref (md 2), .ref (md 3), .int (nI (gNi x)), .int (nI (gNo x)), .ref (md 4), .ref (md 5), .ref (md 6), .int (nI (gNs x)), .ref (md 7), .ref (md 8), .int (nI (gNb x)), .int (nI (gWd x)), .ref (md 9), .long (gTp x), .long (gBl x), .long (gWt x), .long (gWb x)])), (md 1, aI g 48 (gLo x)), (md 2, aI g 48 (gHi x)), (md 3, aZ g 12 (gTr x)), (md 4, aI g 48 (gNu x)), (md 5, aZ g 12 (gAm x)), (md 6, aJ g 13000 (gSd x)), (md 7, aJ g 85 (gBd x)), (md 8, aJ g 5 (gWy x)), (md 9, aI g 5 (fun j => nI ((gCh x) j))), (q_1, aI g 4 (upd (upd (fun _ => 0) 0 xa) 1 xb))] H := hP
  have hD : va_D A [(md 0, .inr (4, [.int (nI 0), .int (nI (gMi x)), .int (nI (gMo x)), .int (nI (gMw x)), .ref (md 1), .ref (md 2), .ref (md 3), .int (nI (gNi x)), .int (nI (gNo x)), .ref (md 4), .ref (md 5), .ref (md 6), .int (nI (gNs x)), .ref (md 7), .ref (md 8), .int (nI (gNb x)), .int (nI (gWd x)), .ref (md 9), .long (gTp x), .long (gBl x), .long (gWt x), .long (gWb x)])), (md 1, aI g 48 (gLo x)), (md 2, aI g 48 (gHi x)), (md 3, aZ g 12 (gTr x)), (md 4, aI g 48 (gNu x)), (md 5, aZ g 12 (gAm x)), (md 6, aJ g 13000 (gSd x)), (md 7, aJ g 85 (gBd x)), (md 8, aJ g 5 (gWy x)), (md 9, aI g 5 (fun j => nI ((gCh x) j))), (q_1, aI g 4 (upd (upd (fun _ => 0) 0 xa) 1 xb))] := hD
  refine lv_dup hx hb dX4_work_16 rfl ?_
  refine lv_iconst (v := nI 2) hx hb dX4_work_17 (by decide) ?_
  refine lv_iload_n hx hb dX4_work_18 rfl (lv_at hl 3 rfl) ?_
  refine k_iast hx hb hK hP hD hS 10 rfl (by omega) (by omega) dX4_work_19 (fun H locs hP hD hS => ?_)
  have hP : va_P g.1 vwCl [(md 0, .inr (4, [.int (nI 0), .int (nI (gMi x)), .int (nI (gMo x)), .int (nI (gMw x)), .ref (md 1), .ref (md 2), .ref (md 3), .int (nI (gNi x)), .int (nI (gNo x)), .ref (md 4), .ref (md 5), .ref (md 6), .int (nI (gNs x)), .ref (md 7), .ref (md 8), .int (nI (gNb x)), .int (nI (gWd x)), .ref (md 9), .long (gTp x), .long (gBl x), .long (gWt x), .long (gWb x)])), (md 1, aI g 48 (gLo x)), (md 2, aI g 48 (gHi x)), (md 3, aZ g 12 (gTr x)), (md 4, aI g 48 (gNu x)), (md 5, aZ g 12 (gAm x)), (md 6, aJ g 13000 (gSd x)), (md 7, aJ g 85 (gBd x)), (md 8, aJ g 5 (gWy x)), (md 9, aI g 5 (fun j => nI ((gCh x) j))), (q_1, aI g 4 (upd (upd (upd (fun _ => 0) 0 xa) 1 xb) 2 xc))] H := hP
  have hD : va_D A [(md 0, .inr (4, [.int (nI 0), .int (nI (gMi x)), .int (nI (gMo x)), .int (nI (gMw x)), .ref (md 1), .ref (md 2), .ref (md 3), .int (nI (gNi x)), .int (nI (gNo x)), .ref (md 4), .ref (md 5), .ref (md 6), .int (nI (gNs x)), .ref (md 7), .ref (md 8), .int (nI (gNb x)), .int (nI (gWd x)), .ref (md 9), .long (gTp x), .long (gBl x), .long (gWt x), .long (gWb x)])), (md 1, aI g 48 (gLo x)), (md 2, aI g 48 (gHi x)), (md 3, aZ g 12 (gTr x)), (md 4, aI g 48 (gNu x)), (md 5, aZ g 12 (gAm x)), (md 6, aJ g 13000 (gSd x)), (md 7, aJ g 85 (gBd x)), (md 8, aJ g 5 (gWy x)), (md 9, aI g 5 (fun j => nI ((gCh x) j))), (q_1, aI g 4 (upd (upd (upd (fun _ => 0) 0 xa) 1 xb) 2 xc))] := hD
  refine lv_dup hx hb dX4_work_20 rfl ?_
  refine lv_iconst (v := nI 3) hx hb dX4_work_21 (by decide) ?_
  refine lv_iload hx hb dX4_work_22 (lv_at hl 4 rfl) ?_
  refine k_iast hx hb hK hP hD hS 10 rfl (by omega) (by omega) dX4_work_24 (fun H locs hP hD hS => ?_)
  have hP : va_P g.1 vwCl [(md 0, .inr (4, [.int (nI 0), .int (nI (gMi x)), .int (nI (gMo x)), .int (nI (gMw x)), .ref (md 1), .ref (md 2), .ref (md 3), .int (nI (gNi x)), .int (nI (gNo x)), .ref (md 4), .ref (md 5), .ref (md 6), .int (nI (gNs x)), .ref (md 7), .ref (md 8), .int (nI (gNb x)), .int (nI (gWd x)), .ref (md 9), .long (gTp x), .long (gBl x), .long (gWt x), .long (gWb x)])), (md 1, aI g 48 (gLo x)), (md 2, aI g 48 (gHi x)), (md 3, aZ g 12 (gTr x)), (md 4, aI g 48 (gNu x)), (md 5, aZ g 12 (gAm x)), (md 6, aJ g 13000 (gSd x)), (md 7, aJ g 85 (gBd x)), (md 8, aJ g 5 (gWy x)), (md 9, aI g 5 (fun j => nI ((gCh x) j))), (q_1, aI g 4 (upd (upd (upd (upd (fun _ => 0) 0 xa) 1 xb) 2 xc) 3 xd))] H := hP
  have hD : va_D A [(md 0, .inr (4, [.int (nI 0), .int (nI (gMi x)), .int (nI (gMo x)), .int (nI (gMw x)), .ref (md 1), .ref (md 2), .ref (md 3), .int (nI (gNi x)), .int (nI (gNo x)), .ref (md 4), .ref (md 5), .ref (md 6), .int (nI (gNs x)), .ref (md 7), .ref (md 8), .int (nI (gNb x)), .int (nI (gWd x)), .ref (md 9), .long (gTp x), .long (gBl x), .long (gWt x), .long (gWb x)])), (md 1, aI g 48 (gLo x)), (md 2, aI g 48 (gHi x)), (md 3, aZ g 12 (gTr x)), (md 4, aI g 48 (gNu x)), (md 5, aZ g 12 (gAm x)), (md 6, aJ g 13000 (gSd x)), (md 7, aJ g 85 (gBd x)), (md 8, aJ g 5 (gWy x)), (md 9, aI g 5 (fun j => nI ((gCh x) j))), (q_1, aI g 4 (upd (upd (upd (upd (fun _ => 0) 0 xa) 1 xb) 2 xc) 3 xd))] := hD
  obtain ⟨hP, hD⟩ := cg_I (h := fun k => pk4 k xa xb xc xd) hP hD 10 rfl (fun j hj => by rcases (show j = 0 ∨ j = 1 ∨ j = 2 ∨ j = 3 by omega) with rfl | rfl | rfl | rfl <;> rfl)
  have hP : va_P g.1 vwCl [(md 0, .inr (4, [.int (nI 0), .int (nI (gMi x)), .int (nI (gMo x)), .int (nI (gMw x)), .ref (md 1), .ref (md 2), .ref (md 3), .int (nI (gNi x)), .int (nI (gNo x)), .ref (md 4), .ref (md 5), .ref (md 6), .int (nI (gNs x)), .ref (md 7), .ref (md 8), .int (nI (gNb x)), .int (nI (gWd x)), .ref (md 9), .long (gTp x), .long (gBl x), .long (gWt x), .long (gWb x)])), (md 1, aI g 48 (gLo x)), (md 2, aI g 48 (gHi x)), (md 3, aZ g 12 (gTr x)), (md 4, aI g 48 (gNu x)), (md 5, aZ g 12 (gAm x)), (md 6, aJ g 13000 (gSd x)), (md 7, aJ g 85 (gBd x)), (md 8, aJ g 5 (gWy x)), (md 9, aI g 5 (fun j => nI ((gCh x) j))), (q_1, aI g 4 (fun k => pk4 k xa xb xc xd))] H := hP
  have hD : va_D A [(md 0, .inr (4, [.int (nI 0), .int (nI (gMi x)), .int (nI (gMo x)), .int (nI (gMw x)), .ref (md 1), .ref (md 2), .ref (md 3), .int (nI (gNi x)), .int (nI (gNo x)), .ref (md 4), .ref (md 5), .ref (md 6), .int (nI (gNs x)), .ref (md 7), .ref (md 8), .int (nI (gNb x)), .int (nI (gWd x)), .ref (md 9), .long (gTp x), .long (gBl x), .long (gWt x), .long (gWb x)])), (md 1, aI g 48 (gLo x)), (md 2, aI g 48 (gHi x)), (md 3, aZ g 12 (gTr x)), (md 4, aI g 48 (gNu x)), (md 5, aZ g 12 (gAm x)), (md 6, aJ g 13000 (gSd x)), (md 7, aJ g 85 (gBd x)), (md 8, aJ g 5 (gWy x)), (md 9, aI g 5 (fun j => nI ((gCh x) j))), (q_1, aI g 4 (fun k => pk4 k xa xb xc xd))] := hD
  refine lv_astore (lv' := [(5, .ref (q_1)), (0, .ref (md 0)), (1, .int (xa)), (2, .int (xb)), (3, .int (xc)), (4, .int (xd))]) hx hb dX4_work_25 hl (by decide) rfl (fun ls hl => ?_)
  refine lv_iconst (v := nI 0) hx hb dX4_work_27 (by decide) ?_
  refine lv_istore (lv' := [(6, .int (nI 0)), (5, .ref (q_1)), (0, .ref (md 0)), (1, .int (xa)), (2, .int (xb)), (3, .int (xc)), (4, .int (xd))]) hx hb dX4_work_28 hl (by decide) rfl (fun ls hl => ?_)
  refine lv_iconst (v := nI 0) hx hb dX4_work_30 (by decide) ?_
  refine lv_istore (lv' := [(7, .int (nI 0)), (6, .int (nI 0)), (5, .ref (q_1)), (0, .ref (md 0)), (1, .int (xa)), (2, .int (xb)), (3, .int (xc)), (4, .int (xd))]) hx hb dX4_work_31 hl (by decide) rfl (fun ls hl => ?_)
  refine lv_iconst (v := nI 0) hx hb dX4_work_33 (by decide) ?_
  refine lv_istore (lv' := [(8, .int (nI 0)), (7, .int (nI 0)), (6, .int (nI 0)), (5, .ref (q_1)), (0, .ref (md 0)), (1, .int (xa)), (2, .int (xb)), (3, .int (xc)), (4, .int (xd))]) hx hb dX4_work_34 hl (by decide) rfl (fun ls hl => ?_)
  have lp_36 : ∀ (n : Nat) (si : Int32) (so : Int32) (k : Nat), gMi x + gMo x - k < n → k ≤ 4 → wkL (gMi x) xa xb xc xd 0 (gMi x + gMo x) (0, 0) = wkL (gMi x) xa xb xc xd k (gMi x + gMo x - k) (si, so) → ∀ (H : Heap) (locs : List Loc), va_P g.1 vwCl [(md 0, .inr (4, [.int (nI 0), .int (nI (gMi x)), .int (nI (gMo x)), .int (nI (gMw x)), .ref (md 1), .ref (md 2), .ref (md 3), .int (nI (gNi x)), .int (nI (gNo x)), .ref (md 4), .ref (md 5), .ref (md 6), .int (nI (gNs x)), .ref (md 7), .ref (md 8), .int (nI (gNb x)), .int (nI (gWd x)), .ref (md 9), .long (gTp x), .long (gBl x), .long (gWt x), .long (gWb x)])), (md 1, aI g 48 (gLo x)), (md 2, aI g 48 (gHi x)), (md 3, aZ g 12 (gTr x)), (md 4, aI g 48 (gNu x)), (md 5, aZ g 12 (gAm x)), (md 6, aJ g 13000 (gSd x)), (md 7, aJ g 85 (gBd x)), (md 8, aJ g 5 (gWy x)), (md 9, aI g 5 (fun j => nI ((gCh x) j))), (q_1, aI g 4 (fun k => pk4 k xa xb xc xd))] H → va_D A [(md 0, .inr (4, [.int (nI 0), .int (nI (gMi x)), .int (nI (gMo x)), .int (nI (gMw x)), .ref (md 1), .ref (md 2), .ref (md 3), .int (nI (gNi x)), .int (nI (gNo x)), .ref (md 4), .ref (md 5), .ref (md 6), .int (nI (gNs x)), .ref (md 7), .ref (md 8), .int (nI (gNb x)), .int (nI (gWd x)), .ref (md 9), .long (gTp x), .long (gBl x), .long (gWt x), .long (gWb x)])), (md 1, aI g 48 (gLo x)), (md 2, aI g 48 (gHi x)), (md 3, aZ g 12 (gTr x)), (md 4, aI g 48 (gNu x)), (md 5, aZ g 12 (gAm x)), (md 6, aJ g 13000 (gSd x)), (md 7, aJ g 85 (gBd x)), (md 8, aJ g 5 (gWy x)), (md 9, aI g 5 (fun j => nI ((gCh x) j))), (q_1, aI g 4 (fun k => pk4 k xa xb xc xd))] → va_S A s.heap H locs → ∀ ls : Array Slot, lv_has ls 9 [(0, .ref (md 0)), (1, .int (xa)), (2, .int (xb)), (3, .int (xc)), (4, .int (xd)), (5, .ref (q_1)), (6, .int (si)), (7, .int (so)), (8, .int (nI k))] → W p l e { frames := 1, cells := 1, slots := 4, locals := 22 } s m args below meth c H locs 1 4 Q (F0 m 36 ls []) := by
    intro n
    induction n with
    | zero =>
      intro si so k hms
      omega
    | succ n ih_36 =>
      intro si so k hms_36 hk hv H locs hP hD hS ls hl
      refine lv_iload hx hb dX4_work_36 (lv_at hl 8 rfl) ?_
      refine lv_aload_n hx hb dX4_work_38 rfl (lv_at hl 0 rfl) ?_
      refine go_i (wc := [(md 0, .inr (4, [.int (nI 0), .int (nI (gMi x)), .int (nI (gMo x)), .int (nI (gMw x)), .ref (md 1), .ref (md 2), .ref (md 3), .int (nI (gNi x)), .int (nI (gNo x)), .ref (md 4), .ref (md 5), .ref (md 6), .int (nI (gNs x)), .ref (md 7), .ref (md 8), .int (nI (gNb x)), .int (nI (gWd x)), .ref (md 9), .long (gTp x), .long (gBl x), .long (gWt x), .long (gWb x)]))]) (wr := [(md 1, aI g 48 (gLo x)), (md 2, aI g 48 (gHi x)), (md 3, aZ g 12 (gTr x)), (md 4, aI g 48 (gNu x)), (md 5, aZ g 12 (gAm x)), (md 6, aJ g 13000 (gSd x)), (md 7, aJ g 85 (gBd x)), (md 8, aJ g 5 (gWy x)), (md 9, aI g 5 (fun j => nI ((gCh x) j))), (q_1, aI g 4 (fun k => pk4 k xa xb xc xd))]) hP hD hS hA [0] [1, 2, 3, 4, 5, 6, 7, 8, 9, 10] rfl rfl rfl rfl (by decide) (fun hPc hDc => rn_V (As := []) (rest := [.int (nI k)]) ⟨hx, hb, hml, hown, hts⟩ ((c_X4_things l g md (nI 0) (gMi x) (gMo x) (gMw x) (gNi x) (gNo x) (gNs x) (gNb x) (gWd x) (gTp x) (gBl x) (gWt x) (gWb x) ) _) (cw_X4_work_56_0_0 hts hN ⟨Nat.le_of_ble_eq_true rfl, Nat.le_of_ble_eq_true rfl⟩) hK hN hPc hDc 0 rfl rfl rfl rfl hl.1 (Nat.le_of_ble_eq_true rfl) dX4_work_39 ⟨Nat.le_of_ble_eq_true rfl, Nat.le_of_ble_eq_true rfl⟩) ?_
      intro r_2 u_3 H locs h_4 hP hD hS
      have hP : va_P g.1 vwCl [(md 0, .inr (4, [.int (nI 0), .int (nI (gMi x)), .int (nI (gMo x)), .int (nI (gMw x)), .ref (md 1), .ref (md 2), .ref (md 3), .int (nI (gNi x)), .int (nI (gNo x)), .ref (md 4), .ref (md 5), .ref (md 6), .int (nI (gNs x)), .ref (md 7), .ref (md 8), .int (nI (gNb x)), .int (nI (gWd x)), .ref (md 9), .long (gTp x), .long (gBl x), .long (gWt x), .long (gWb x)])), (md 1, aI g 48 (gLo x)), (md 2, aI g 48 (gHi x)), (md 3, aZ g 12 (gTr x)), (md 4, aI g 48 (gNu x)), (md 5, aZ g 12 (gAm x)), (md 6, aJ g 13000 (gSd x)), (md 7, aJ g 85 (gBd x)), (md 8, aJ g 5 (gWy x)), (md 9, aI g 5 (fun j => nI ((gCh x) j))), (q_1, aI g 4 (fun k => pk4 k xa xb xc xd))] H := hP.sub [10, 0, 1, 2, 3, 4, 5, 6, 7, 8, 9] rfl
      have hD : va_D A [(md 0, .inr (4, [.int (nI 0), .int (nI (gMi x)), .int (nI (gMo x)), .int (nI (gMw x)), .ref (md 1), .ref (md 2), .ref (md 3), .int (nI (gNi x)), .int (nI (gNo x)), .ref (md 4), .ref (md 5), .ref (md 6), .int (nI (gNs x)), .ref (md 7), .ref (md 8), .int (nI (gNb x)), .int (nI (gWd x)), .ref (md 9), .long (gTp x), .long (gBl x), .long (gWt x), .long (gWb x)])), (md 1, aI g 48 (gLo x)), (md 2, aI g 48 (gHi x)), (md 3, aZ g 12 (gTr x)), (md 4, aI g 48 (gNu x)), (md 5, aZ g 12 (gAm x)), (md 6, aJ g 13000 (gSd x)), (md 7, aJ g 85 (gBd x)), (md 8, aJ g 5 (gWy x)), (md 9, aI g 5 (fun j => nI ((gCh x) j))), (q_1, aI g 4 (fun k => pk4 k xa xb xc xd))] := hD.sub [10, 0, 1, 2, 3, 4, 5, 6, 7, 8, 9] rfl rfl
      have h_4 : r_2 = nI ((gMi x) + (gMo x)) := h_4
      subst h_4
      refine lv_icmp_ge (tgt := 99) hx hb dX4_work_42 (by decide) (fun c_5 => ?_) (fun c_5 => ?_)
      · skip
        have c_5 := (nI_leI (by omega) (by omega)).mp c_5
        have hq : wkL (gMi x) xa xb xc xd 0 (gMi x + gMo x) (0, 0) = some (si, so) := by rw [hv, show gMi x + gMo x - k = 0 by omega]; rfl
        refine lv_aload_n hx hb dX4_work_99 rfl (lv_at hl 0 rfl) ?_
        refine k_get hx hb hts hown hK hP iw_X4_work_X4 rfl 0 3 fm_X4_work_49 (by decide) rfl rfl dX4_work_100 ?_
        refine lv_bipush (v := nI 12) hx hb dX4_work_103 (by decide) ?_
        refine lv_icmp_eq (tgt := 118) hx hb dX4_work_105 (by decide) (fun c_6 => ?_) (fun c_6 => ?_)
        · skip
          have c_6 := (nI_eq (by omega) (by omega)).mp c_6
          have hno : ¬ wkD x xa xb xc xd := fun q => q.1 c_6
          refine lv_iconst (v := -1) hx hb dX4_work_118 (by decide) ?_
          have hP := hP.sub (ws' := [(md 0, .inr (4, [.int (nI 0), .int (nI (gMi x)), .int (nI (gMo x)), .int (nI (gMw x)), .ref (md 1), .ref (md 2), .ref (md 3), .int (nI (gNi x)), .int (nI (gNo x)), .ref (md 4), .ref (md 5), .ref (md 6), .int (nI (gNs x)), .ref (md 7), .ref (md 8), .int (nI (gNb x)), .int (nI (gWd x)), .ref (md 9), .long (gTp x), .long (gBl x), .long (gWt x), .long (gWb x)])), (md 1, aI g 48 (gLo x)), (md 2, aI g 48 (gHi x)), (md 3, aZ g 12 (gTr x)), (md 4, aI g 48 (gNu x)), (md 5, aZ g 12 (gAm x)), (md 6, aJ g 13000 (gSd x)), (md 7, aJ g 85 (gBd x)), (md 8, aJ g 5 (gWy x)), (md 9, aI g 5 (fun j => nI ((gCh x) j)))]) [0, 1, 2, 3, 4, 5, 6, 7, 8, 9] rfl
          have hD := hD.sub (ws' := [(md 0, .inr (4, [.int (nI 0), .int (nI (gMi x)), .int (nI (gMo x)), .int (nI (gMw x)), .ref (md 1), .ref (md 2), .ref (md 3), .int (nI (gNi x)), .int (nI (gNo x)), .ref (md 4), .ref (md 5), .ref (md 6), .int (nI (gNs x)), .ref (md 7), .ref (md 8), .int (nI (gNb x)), .int (nI (gWd x)), .ref (md 9), .long (gTp x), .long (gBl x), .long (gWt x), .long (gWb x)])), (md 1, aI g 48 (gLo x)), (md 2, aI g 48 (gHi x)), (md 3, aZ g 12 (gTr x)), (md 4, aI g 48 (gNu x)), (md 5, aZ g 12 (gAm x)), (md 6, aJ g 13000 (gSd x)), (md 7, aJ g 85 (gBd x)), (md 8, aJ g 5 (gWy x)), (md 9, aI g 5 (fun j => nI ((gCh x) j)))]) [0, 1, 2, 3, 4, 5, 6, 7, 8, 9] rfl rfl
          exact ret dX4_work_119 ((nI 0, gMi x, gMo x, gMw x, gLo x, gHi x, gTr x, gNi x, gNo x, gNu x, gAm x, gSd x, gNs x, gBd x, gWy x, gNb x, gWd x, (gCh x), gTp x, gBl x, gWt x, gWb x)) (Or.inr ⟨hno, rfl, ⟨rfl, rfl, rfl, rfl, rfl, rfl⟩⟩) hP hD hS
        · skip
          have c_6 := mt (nI_eq (by omega) (by omega)).mpr c_6
          have h12 := c_6
          refine lv_iload hx hb dX4_work_108 (lv_at hl 6 rfl) ?_
          refine lv_if_eq (tgt := 118) hx hb dX4_work_110 (by decide) (fun c_7 => ?_) (fun c_7 => ?_)
          · skip
            have hno : ¬ wkD x xa xb xc xd := fun q => by
              obtain ⟨-, q, q1, q2, q3⟩ := q
              rw [hq] at q1
              cases q1
              exact q2 c_7
            refine lv_iconst (v := -1) hx hb dX4_work_118 (by decide) ?_
            have hP := hP.sub (ws' := [(md 0, .inr (4, [.int (nI 0), .int (nI (gMi x)), .int (nI (gMo x)), .int (nI (gMw x)), .ref (md 1), .ref (md 2), .ref (md 3), .int (nI (gNi x)), .int (nI (gNo x)), .ref (md 4), .ref (md 5), .ref (md 6), .int (nI (gNs x)), .ref (md 7), .ref (md 8), .int (nI (gNb x)), .int (nI (gWd x)), .ref (md 9), .long (gTp x), .long (gBl x), .long (gWt x), .long (gWb x)])), (md 1, aI g 48 (gLo x)), (md 2, aI g 48 (gHi x)), (md 3, aZ g 12 (gTr x)), (md 4, aI g 48 (gNu x)), (md 5, aZ g 12 (gAm x)), (md 6, aJ g 13000 (gSd x)), (md 7, aJ g 85 (gBd x)), (md 8, aJ g 5 (gWy x)), (md 9, aI g 5 (fun j => nI ((gCh x) j)))]) [0, 1, 2, 3, 4, 5, 6, 7, 8, 9] rfl
            have hD := hD.sub (ws' := [(md 0, .inr (4, [.int (nI 0), .int (nI (gMi x)), .int (nI (gMo x)), .int (nI (gMw x)), .ref (md 1), .ref (md 2), .ref (md 3), .int (nI (gNi x)), .int (nI (gNo x)), .ref (md 4), .ref (md 5), .ref (md 6), .int (nI (gNs x)), .ref (md 7), .ref (md 8), .int (nI (gNb x)), .int (nI (gWd x)), .ref (md 9), .long (gTp x), .long (gBl x), .long (gWt x), .long (gWb x)])), (md 1, aI g 48 (gLo x)), (md 2, aI g 48 (gHi x)), (md 3, aZ g 12 (gTr x)), (md 4, aI g 48 (gNu x)), (md 5, aZ g 12 (gAm x)), (md 6, aJ g 13000 (gSd x)), (md 7, aJ g 85 (gBd x)), (md 8, aJ g 5 (gWy x)), (md 9, aI g 5 (fun j => nI ((gCh x) j)))]) [0, 1, 2, 3, 4, 5, 6, 7, 8, 9] rfl rfl
            exact ret dX4_work_119 ((nI 0, gMi x, gMo x, gMw x, gLo x, gHi x, gTr x, gNi x, gNo x, gNu x, gAm x, gSd x, gNs x, gBd x, gWy x, gNb x, gWd x, (gCh x), gTp x, gBl x, gWt x, gWb x)) (Or.inr ⟨hno, rfl, ⟨rfl, rfl, rfl, rfl, rfl, rfl⟩⟩) hP hD hS
          · skip
            have h5 := c_7
            refine lv_iload hx hb dX4_work_113 (lv_at hl 7 rfl) ?_
            refine lv_if_ne (tgt := 120) hx hb dX4_work_115 (by decide) (fun c_8 => ?_) (fun c_8 => ?_)
            · skip
              have h6 := c_8
              have hac : wkD x xa xb xc xd := ⟨h12, (si, so), hq, h5, h6⟩
              refine lv_iconst (v := nI 0) hx hb dX4_work_120 (by decide) ?_
              refine lv_istore (lv' := [(8, .int (nI 0)), (0, .ref (md 0)), (1, .int (xa)), (2, .int (xb)), (3, .int (xc)), (4, .int (xd)), (5, .ref (q_1)), (6, .int (si)), (7, .int (so))]) hx hb dX4_work_121 hl (by decide) rfl (fun ls hl => ?_)
              have lp_123 : ∀ (n : Nat) (k : Nat) (f : Nat → Int32) (h : Nat → Int32), 4 - k < n → k ≤ 4 → wkG (gMw x) xa xb xc xd (gMi x + gMo x) 0 4 (gLo x) = wkG (gMw x) xa xb xc xd (gMi x + gMo x) k (4 - k) f → wkG (gMw x) xa xb xc xd (gMi x + gMo x) 0 4 (gHi x) = wkG (gMw x) xa xb xc xd (gMi x + gMo x) k (4 - k) h → ∀ (H : Heap) (locs : List Loc), va_P g.1 vwCl [(md 0, .inr (4, [.int (nI 0), .int (nI (gMi x)), .int (nI (gMo x)), .int (nI (gMw x)), .ref (md 1), .ref (md 2), .ref (md 3), .int (nI (gNi x)), .int (nI (gNo x)), .ref (md 4), .ref (md 5), .ref (md 6), .int (nI (gNs x)), .ref (md 7), .ref (md 8), .int (nI (gNb x)), .int (nI (gWd x)), .ref (md 9), .long (gTp x), .long (gBl x), .long (gWt x), .long (gWb x)])), (md 1, aI g 48 f), (md 2, aI g 48 h), (md 3, aZ g 12 (gTr x)), (md 4, aI g 48 (gNu x)), (md 5, aZ g 12 (gAm x)), (md 6, aJ g 13000 (gSd x)), (md 7, aJ g 85 (gBd x)), (md 8, aJ g 5 (gWy x)), (md 9, aI g 5 (fun j => nI ((gCh x) j))), (q_1, aI g 4 (fun k => pk4 k xa xb xc xd))] H → va_D A [(md 0, .inr (4, [.int (nI 0), .int (nI (gMi x)), .int (nI (gMo x)), .int (nI (gMw x)), .ref (md 1), .ref (md 2), .ref (md 3), .int (nI (gNi x)), .int (nI (gNo x)), .ref (md 4), .ref (md 5), .ref (md 6), .int (nI (gNs x)), .ref (md 7), .ref (md 8), .int (nI (gNb x)), .int (nI (gWd x)), .ref (md 9), .long (gTp x), .long (gBl x), .long (gWt x), .long (gWb x)])), (md 1, aI g 48 f), (md 2, aI g 48 h), (md 3, aZ g 12 (gTr x)), (md 4, aI g 48 (gNu x)), (md 5, aZ g 12 (gAm x)), (md 6, aJ g 13000 (gSd x)), (md 7, aJ g 85 (gBd x)), (md 8, aJ g 5 (gWy x)), (md 9, aI g 5 (fun j => nI ((gCh x) j))), (q_1, aI g 4 (fun k => pk4 k xa xb xc xd))] → va_S A s.heap H locs → ∀ ls : Array Slot, lv_has ls 9 [(0, .ref (md 0)), (1, .int (xa)), (2, .int (xb)), (3, .int (xc)), (4, .int (xd)), (5, .ref (q_1)), (8, .int (nI k))] → W p l e { frames := 1, cells := 1, slots := 4, locals := 22 } s m args below meth c H locs 1 4 Q (F0 m 123 ls []) := by
                intro n
                induction n with
                | zero =>
                  intro k f h hms
                  omega
                | succ n ih_123 =>
                  intro k f h hms_123 hk hf hh H locs hP hD hS ls hl
                  refine lv_iload hx hb dX4_work_123 (lv_at hl 6 rfl) ?_
                  refine lv_iconst (v := nI 4) hx hb dX4_work_125 (by decide) ?_
                  refine lv_icmp_ge (tgt := 199) hx hb dX4_work_126 (by decide) (fun c_9 => ?_) (fun c_9 => ?_)
                  · skip
                    have c_9 := (nI_leI (by omega) (by omega)).mp c_9
                    have e1 : f = wkG (gMw x) xa xb xc xd (gMi x + gMo x) 0 4 (gLo x) := by rw [hf, show 4 - k = 0 by omega]; rfl
                    have e2 : h = wkG (gMw x) xa xb xc xd (gMi x + gMo x) 0 4 (gHi x) := by rw [hh, show 4 - k = 0 by omega]; rfl
                    clear hf hh
                    subst e1
                    subst e2
                    refine lv_aload_n hx hb dX4_work_199 rfl (lv_at hl 0 rfl) ?_
                    refine k_get hx hb hts hown hK hP iw_X4_work_X4 rfl 0 6 fm_X4_work_23 (by decide) rfl rfl dX4_work_200 ?_
                    refine lv_aload_n hx hb dX4_work_203 rfl (lv_at hl 0 rfl) ?_
                    refine k_get hx hb hts hown hK hP iw_X4_work_X4 rfl 0 3 fm_X4_work_49 (by decide) rfl rfl dX4_work_204 ?_
                    refine lv_iconst (v := nI 1) hx hb dX4_work_207 (by decide) ?_
                    refine k_zast hx hb hK hP hD hS 3 rfl (by omega) (by omega) (by decide) dX4_work_208 (fun H locs hP hD hS => ?_)
                    have hP : va_P g.1 vwCl [(md 0, .inr (4, [.int (nI 0), .int (nI (gMi x)), .int (nI (gMo x)), .int (nI (gMw x)), .ref (md 1), .ref (md 2), .ref (md 3), .int (nI (gNi x)), .int (nI (gNo x)), .ref (md 4), .ref (md 5), .ref (md 6), .int (nI (gNs x)), .ref (md 7), .ref (md 8), .int (nI (gNb x)), .int (nI (gWd x)), .ref (md 9), .long (gTp x), .long (gBl x), .long (gWt x), .long (gWb x)])), (md 1, aI g 48 (wkG (gMw x) xa xb xc xd (gMi x + gMo x) 0 4 (gLo x))), (md 2, aI g 48 (wkG (gMw x) xa xb xc xd (gMi x + gMo x) 0 4 (gHi x))), (md 3, aZ g 12 (upd (gTr x) (gMw x) (nI 1))), (md 4, aI g 48 (gNu x)), (md 5, aZ g 12 (gAm x)), (md 6, aJ g 13000 (gSd x)), (md 7, aJ g 85 (gBd x)), (md 8, aJ g 5 (gWy x)), (md 9, aI g 5 (fun j => nI ((gCh x) j))), (q_1, aI g 4 (fun k => pk4 k xa xb xc xd))] H := hP
                    have hD : va_D A [(md 0, .inr (4, [.int (nI 0), .int (nI (gMi x)), .int (nI (gMo x)), .int (nI (gMw x)), .ref (md 1), .ref (md 2), .ref (md 3), .int (nI (gNi x)), .int (nI (gNo x)), .ref (md 4), .ref (md 5), .ref (md 6), .int (nI (gNs x)), .ref (md 7), .ref (md 8), .int (nI (gNb x)), .int (nI (gWd x)), .ref (md 9), .long (gTp x), .long (gBl x), .long (gWt x), .long (gWb x)])), (md 1, aI g 48 (wkG (gMw x) xa xb xc xd (gMi x + gMo x) 0 4 (gLo x))), (md 2, aI g 48 (wkG (gMw x) xa xb xc xd (gMi x + gMo x) 0 4 (gHi x))), (md 3, aZ g 12 (upd (gTr x) (gMw x) (nI 1))), (md 4, aI g 48 (gNu x)), (md 5, aZ g 12 (gAm x)), (md 6, aJ g 13000 (gSd x)), (md 7, aJ g 85 (gBd x)), (md 8, aJ g 5 (gWy x)), (md 9, aI g 5 (fun j => nI ((gCh x) j))), (q_1, aI g 4 (fun k => pk4 k xa xb xc xd))] := hD
                    refine lv_aload_n hx hb dX4_work_209 rfl (lv_at hl 0 rfl) ?_
                    refine lv_dup hx hb dX4_work_210 rfl ?_
                    refine k_get hx hb hts hown hK hP iw_X4_work_X4 rfl 0 3 fm_X4_work_49 (by decide) rfl rfl dX4_work_211 ?_
                    refine lv_iconst (v := nI 1) hx hb dX4_work_214 (by decide) ?_
                    refine lv_iadd hx hb dX4_work_215 ?_
                    refine k_ei (y := nI (gMw x + 1)) (nI_add _ _) ?_
                    refine k_put hx hb hts hown hK hP hD hS iw_X4_work_X4 rfl tyX4 tyX4_ok nmX4 0 3 fm_X4_work_49 (by decide) rfl rfl rfl rfl rfl (Nat.le_of_ble_eq_true rfl) dX4_work_216 (fun H locs hP hD hS => ?_)
                    have hP : va_P g.1 vwCl [(md 0, .inr (4, [.int (nI 0), .int (nI (gMi x)), .int (nI (gMo x)), .int (nI (gMw x + 1)), .ref (md 1), .ref (md 2), .ref (md 3), .int (nI (gNi x)), .int (nI (gNo x)), .ref (md 4), .ref (md 5), .ref (md 6), .int (nI (gNs x)), .ref (md 7), .ref (md 8), .int (nI (gNb x)), .int (nI (gWd x)), .ref (md 9), .long (gTp x), .long (gBl x), .long (gWt x), .long (gWb x)])), (md 1, aI g 48 (wkG (gMw x) xa xb xc xd (gMi x + gMo x) 0 4 (gLo x))), (md 2, aI g 48 (wkG (gMw x) xa xb xc xd (gMi x + gMo x) 0 4 (gHi x))), (md 3, aZ g 12 (upd (gTr x) (gMw x) (nI 1))), (md 4, aI g 48 (gNu x)), (md 5, aZ g 12 (gAm x)), (md 6, aJ g 13000 (gSd x)), (md 7, aJ g 85 (gBd x)), (md 8, aJ g 5 (gWy x)), (md 9, aI g 5 (fun j => nI ((gCh x) j))), (q_1, aI g 4 (fun k => pk4 k xa xb xc xd))] H := hP
                    have hD : va_D A [(md 0, .inr (4, [.int (nI 0), .int (nI (gMi x)), .int (nI (gMo x)), .int (nI (gMw x + 1)), .ref (md 1), .ref (md 2), .ref (md 3), .int (nI (gNi x)), .int (nI (gNo x)), .ref (md 4), .ref (md 5), .ref (md 6), .int (nI (gNs x)), .ref (md 7), .ref (md 8), .int (nI (gNb x)), .int (nI (gWd x)), .ref (md 9), .long (gTp x), .long (gBl x), .long (gWt x), .long (gWb x)])), (md 1, aI g 48 (wkG (gMw x) xa xb xc xd (gMi x + gMo x) 0 4 (gLo x))), (md 2, aI g 48 (wkG (gMw x) xa xb xc xd (gMi x + gMo x) 0 4 (gHi x))), (md 3, aZ g 12 (upd (gTr x) (gMw x) (nI 1))), (md 4, aI g 48 (gNu x)), (md 5, aZ g 12 (gAm x)), (md 6, aJ g 13000 (gSd x)), (md 7, aJ g 85 (gBd x)), (md 8, aJ g 5 (gWy x)), (md 9, aI g 5 (fun j => nI ((gCh x) j))), (q_1, aI g 4 (fun k => pk4 k xa xb xc xd))] := hD
                    refine lv_aload_n hx hb dX4_work_219 rfl (lv_at hl 0 rfl) ?_
                    refine k_get hx hb hts hown hK hP iw_X4_work_X4 rfl 0 3 fm_X4_work_49 (by decide) rfl rfl dX4_work_220 ?_
                    refine lv_iconst (v := nI 1) hx hb dX4_work_223 (by decide) ?_
                    refine lv_isub hx hb dX4_work_224 ?_
                    refine k_ei (y := nI ((gMw x + 1) - 1)) (pk_sub (by omega)) ?_
                    refine k_ei (y := nI (gMw x)) (by rw [Nat.add_sub_cancel]) ?_
                    have hP := hP.sub (ws' := [(md 0, .inr (4, [.int (nI 0), .int (nI (gMi x)), .int (nI (gMo x)), .int (nI (gMw x + 1)), .ref (md 1), .ref (md 2), .ref (md 3), .int (nI (gNi x)), .int (nI (gNo x)), .ref (md 4), .ref (md 5), .ref (md 6), .int (nI (gNs x)), .ref (md 7), .ref (md 8), .int (nI (gNb x)), .int (nI (gWd x)), .ref (md 9), .long (gTp x), .long (gBl x), .long (gWt x), .long (gWb x)])), (md 1, aI g 48 (wkG (gMw x) xa xb xc xd (gMi x + gMo x) 0 4 (gLo x))), (md 2, aI g 48 (wkG (gMw x) xa xb xc xd (gMi x + gMo x) 0 4 (gHi x))), (md 3, aZ g 12 (upd (gTr x) (gMw x) (nI 1))), (md 4, aI g 48 (gNu x)), (md 5, aZ g 12 (gAm x)), (md 6, aJ g 13000 (gSd x)), (md 7, aJ g 85 (gBd x)), (md 8, aJ g 5 (gWy x)), (md 9, aI g 5 (fun j => nI ((gCh x) j)))]) [0, 1, 2, 3, 4, 5, 6, 7, 8, 9] rfl
                    have hD := hD.sub (ws' := [(md 0, .inr (4, [.int (nI 0), .int (nI (gMi x)), .int (nI (gMo x)), .int (nI (gMw x + 1)), .ref (md 1), .ref (md 2), .ref (md 3), .int (nI (gNi x)), .int (nI (gNo x)), .ref (md 4), .ref (md 5), .ref (md 6), .int (nI (gNs x)), .ref (md 7), .ref (md 8), .int (nI (gNb x)), .int (nI (gWd x)), .ref (md 9), .long (gTp x), .long (gBl x), .long (gWt x), .long (gWb x)])), (md 1, aI g 48 (wkG (gMw x) xa xb xc xd (gMi x + gMo x) 0 4 (gLo x))), (md 2, aI g 48 (wkG (gMw x) xa xb xc xd (gMi x + gMo x) 0 4 (gHi x))), (md 3, aZ g 12 (upd (gTr x) (gMw x) (nI 1))), (md 4, aI g 48 (gNu x)), (md 5, aZ g 12 (gAm x)), (md 6, aJ g 13000 (gSd x)), (md 7, aJ g 85 (gBd x)), (md 8, aJ g 5 (gWy x)), (md 9, aI g 5 (fun j => nI ((gCh x) j)))]) [0, 1, 2, 3, 4, 5, 6, 7, 8, 9] rfl rfl
                    exact ret dX4_work_225 ((nI 0, gMi x, gMo x, gMw x + 1, wkG (gMw x) xa xb xc xd (gMi x + gMo x) 0 4 (gLo x), wkG (gMw x) xa xb xc xd (gMi x + gMo x) 0 4 (gHi x), upd (gTr x) (gMw x) (nI 1), gNi x, gNo x, gNu x, gAm x, gSd x, gNs x, gBd x, gWy x, gNb x, gWd x, (gCh x), gTp x, gBl x, gWt x, gWb x)) (Or.inl ⟨hac, rfl, ⟨rfl, rfl, rfl, rfl, rfl, rfl⟩⟩) hP hD hS
                  · skip
                    have c_9 := mt (nI_leI (by omega) (by omega)).mpr c_9
                    refine lv_aload_n hx hb dX4_work_129 rfl (lv_at hl 0 rfl) ?_
                    refine k_get hx hb hts hown hK hP iw_X4_work_X4 rfl 0 4 fm_X4_work_16 (by decide) rfl rfl dX4_work_130 ?_
                    refine lv_iconst (v := nI 4) hx hb dX4_work_133 (by decide) ?_
                    refine lv_aload_n hx hb dX4_work_134 rfl (lv_at hl 0 rfl) ?_
                    refine k_get hx hb hts hown hK hP iw_X4_work_X4 rfl 0 3 fm_X4_work_49 (by decide) rfl rfl dX4_work_135 ?_
                    refine lv_imul hx hb dX4_work_138 ?_
                    refine k_ei (y := nI ((gMw x) * 4)) ((pk_mul _ _).trans (congrArg nI (Nat.mul_comm _ _))) ?_
                    refine lv_iload hx hb dX4_work_139 (lv_at hl 6 rfl) ?_
                    refine lv_iadd hx hb dX4_work_141 ?_
                    refine k_ei (y := nI ((gMw x) * 4 + k)) (nI_add _ _) ?_
                    refine lv_iload hx hb dX4_work_142 (lv_at hl 6 rfl) ?_
                    refine lv_aload_n hx hb dX4_work_144 rfl (lv_at hl 0 rfl) ?_
                    refine go_i (wc := [(md 0, .inr (4, [.int (nI 0), .int (nI (gMi x)), .int (nI (gMo x)), .int (nI (gMw x)), .ref (md 1), .ref (md 2), .ref (md 3), .int (nI (gNi x)), .int (nI (gNo x)), .ref (md 4), .ref (md 5), .ref (md 6), .int (nI (gNs x)), .ref (md 7), .ref (md 8), .int (nI (gNb x)), .int (nI (gWd x)), .ref (md 9), .long (gTp x), .long (gBl x), .long (gWt x), .long (gWb x)]))]) (wr := [(md 1, aI g 48 f), (md 2, aI g 48 h), (md 3, aZ g 12 (gTr x)), (md 4, aI g 48 (gNu x)), (md 5, aZ g 12 (gAm x)), (md 6, aJ g 13000 (gSd x)), (md 7, aJ g 85 (gBd x)), (md 8, aJ g 5 (gWy x)), (md 9, aI g 5 (fun j => nI ((gCh x) j))), (q_1, aI g 4 (fun k => pk4 k xa xb xc xd))]) hP hD hS hA [0] [1, 2, 3, 4, 5, 6, 7, 8, 9, 10] rfl rfl rfl rfl (by decide) (fun hPc hDc => rn_V (As := []) (rest := [.int (nI k), .int (nI ((gMw x) * 4 + k)), .ref (md 1)]) ⟨hx, hb, hml, hown, hts⟩ ((c_X4_things l g md (nI 0) (gMi x) (gMo x) (gMw x) (gNi x) (gNo x) (gNs x) (gNb x) (gWd x) (gTp x) (gBl x) (gWt x) (gWb x) ) _) (cw_X4_work_56_0_0 hts hN ⟨Nat.le_of_ble_eq_true rfl, Nat.le_of_ble_eq_true rfl⟩) hK hN hPc hDc 0 rfl rfl rfl rfl hl.1 (Nat.le_of_ble_eq_true rfl) dX4_work_145 ⟨Nat.le_of_ble_eq_true rfl, Nat.le_of_ble_eq_true rfl⟩) ?_
                    intro r_10 u_11 H locs h_12 hP hD hS
                    have hP : va_P g.1 vwCl [(md 0, .inr (4, [.int (nI 0), .int (nI (gMi x)), .int (nI (gMo x)), .int (nI (gMw x)), .ref (md 1), .ref (md 2), .ref (md 3), .int (nI (gNi x)), .int (nI (gNo x)), .ref (md 4), .ref (md 5), .ref (md 6), .int (nI (gNs x)), .ref (md 7), .ref (md 8), .int (nI (gNb x)), .int (nI (gWd x)), .ref (md 9), .long (gTp x), .long (gBl x), .long (gWt x), .long (gWb x)])), (md 1, aI g 48 f), (md 2, aI g 48 h), (md 3, aZ g 12 (gTr x)), (md 4, aI g 48 (gNu x)), (md 5, aZ g 12 (gAm x)), (md 6, aJ g 13000 (gSd x)), (md 7, aJ g 85 (gBd x)), (md 8, aJ g 5 (gWy x)), (md 9, aI g 5 (fun j => nI ((gCh x) j))), (q_1, aI g 4 (fun k => pk4 k xa xb xc xd))] H := hP.sub [10, 0, 1, 2, 3, 4, 5, 6, 7, 8, 9] rfl
                    have hD : va_D A [(md 0, .inr (4, [.int (nI 0), .int (nI (gMi x)), .int (nI (gMo x)), .int (nI (gMw x)), .ref (md 1), .ref (md 2), .ref (md 3), .int (nI (gNi x)), .int (nI (gNo x)), .ref (md 4), .ref (md 5), .ref (md 6), .int (nI (gNs x)), .ref (md 7), .ref (md 8), .int (nI (gNb x)), .int (nI (gWd x)), .ref (md 9), .long (gTp x), .long (gBl x), .long (gWt x), .long (gWb x)])), (md 1, aI g 48 f), (md 2, aI g 48 h), (md 3, aZ g 12 (gTr x)), (md 4, aI g 48 (gNu x)), (md 5, aZ g 12 (gAm x)), (md 6, aJ g 13000 (gSd x)), (md 7, aJ g 85 (gBd x)), (md 8, aJ g 5 (gWy x)), (md 9, aI g 5 (fun j => nI ((gCh x) j))), (q_1, aI g 4 (fun k => pk4 k xa xb xc xd))] := hD.sub [10, 0, 1, 2, 3, 4, 5, 6, 7, 8, 9] rfl rfl
                    have h_12 : r_10 = nI ((gMi x) + (gMo x)) := h_12
                    subst h_12
                    have lp_160 : ∀ (H : Heap) (locs : List Loc), va_P g.1 vwCl [(md 0, .inr (4, [.int (nI 0), .int (nI (gMi x)), .int (nI (gMo x)), .int (nI (gMw x)), .ref (md 1), .ref (md 2), .ref (md 3), .int (nI (gNi x)), .int (nI (gNo x)), .ref (md 4), .ref (md 5), .ref (md 6), .int (nI (gNs x)), .ref (md 7), .ref (md 8), .int (nI (gNb x)), .int (nI (gWd x)), .ref (md 9), .long (gTp x), .long (gBl x), .long (gWt x), .long (gWb x)])), (md 1, aI g 48 f), (md 2, aI g 48 h), (md 3, aZ g 12 (gTr x)), (md 4, aI g 48 (gNu x)), (md 5, aZ g 12 (gAm x)), (md 6, aJ g 13000 (gSd x)), (md 7, aJ g 85 (gBd x)), (md 8, aJ g 5 (gWy x)), (md 9, aI g 5 (fun j => nI ((gCh x) j))), (q_1, aI g 4 (fun k => pk4 k xa xb xc xd))] H → va_D A [(md 0, .inr (4, [.int (nI 0), .int (nI (gMi x)), .int (nI (gMo x)), .int (nI (gMw x)), .ref (md 1), .ref (md 2), .ref (md 3), .int (nI (gNi x)), .int (nI (gNo x)), .ref (md 4), .ref (md 5), .ref (md 6), .int (nI (gNs x)), .ref (md 7), .ref (md 8), .int (nI (gNb x)), .int (nI (gWd x)), .ref (md 9), .long (gTp x), .long (gBl x), .long (gWt x), .long (gWb x)])), (md 1, aI g 48 f), (md 2, aI g 48 h), (md 3, aZ g 12 (gTr x)), (md 4, aI g 48 (gNu x)), (md 5, aZ g 12 (gAm x)), (md 6, aJ g 13000 (gSd x)), (md 7, aJ g 85 (gBd x)), (md 8, aJ g 5 (gWy x)), (md 9, aI g 5 (fun j => nI ((gCh x) j))), (q_1, aI g 4 (fun k => pk4 k xa xb xc xd))] → va_S A s.heap H locs → ∀ ls : Array Slot, lv_has ls 9 [(0, .ref (md 0)), (1, .int (xa)), (2, .int (xb)), (3, .int (xc)), (4, .int (xd)), (5, .ref (q_1)), (8, .int (nI k))] → W p l e { frames := 1, cells := 1, slots := 4, locals := 22 } s m args below meth c H locs 1 4 Q (F0 m 160 ls [.int (if k < gMi x + gMo x then pk4 k xa xb xc xd else nI 0), .int (nI (gMw x * 4 + k)), .ref (md 1)]) := by
                      intro   H locs hP hD hS ls hl
                      refine k_iast hx hb hK hP hD hS 1 rfl (by omega) (by omega) dX4_work_160 (fun H locs hP hD hS => ?_)
                      have hP : va_P g.1 vwCl [(md 0, .inr (4, [.int (nI 0), .int (nI (gMi x)), .int (nI (gMo x)), .int (nI (gMw x)), .ref (md 1), .ref (md 2), .ref (md 3), .int (nI (gNi x)), .int (nI (gNo x)), .ref (md 4), .ref (md 5), .ref (md 6), .int (nI (gNs x)), .ref (md 7), .ref (md 8), .int (nI (gNb x)), .int (nI (gWd x)), .ref (md 9), .long (gTp x), .long (gBl x), .long (gWt x), .long (gWb x)])), (md 1, aI g 48 (upd f (gMw x * 4 + k) (if k < gMi x + gMo x then pk4 k xa xb xc xd else nI 0))), (md 2, aI g 48 h), (md 3, aZ g 12 (gTr x)), (md 4, aI g 48 (gNu x)), (md 5, aZ g 12 (gAm x)), (md 6, aJ g 13000 (gSd x)), (md 7, aJ g 85 (gBd x)), (md 8, aJ g 5 (gWy x)), (md 9, aI g 5 (fun j => nI ((gCh x) j))), (q_1, aI g 4 (fun k => pk4 k xa xb xc xd))] H := hP
                      have hD : va_D A [(md 0, .inr (4, [.int (nI 0), .int (nI (gMi x)), .int (nI (gMo x)), .int (nI (gMw x)), .ref (md 1), .ref (md 2), .ref (md 3), .int (nI (gNi x)), .int (nI (gNo x)), .ref (md 4), .ref (md 5), .ref (md 6), .int (nI (gNs x)), .ref (md 7), .ref (md 8), .int (nI (gNb x)), .int (nI (gWd x)), .ref (md 9), .long (gTp x), .long (gBl x), .long (gWt x), .long (gWb x)])), (md 1, aI g 48 (upd f (gMw x * 4 + k) (if k < gMi x + gMo x then pk4 k xa xb xc xd else nI 0))), (md 2, aI g 48 h), (md 3, aZ g 12 (gTr x)), (md 4, aI g 48 (gNu x)), (md 5, aZ g 12 (gAm x)), (md 6, aJ g 13000 (gSd x)), (md 7, aJ g 85 (gBd x)), (md 8, aJ g 5 (gWy x)), (md 9, aI g 5 (fun j => nI ((gCh x) j))), (q_1, aI g 4 (fun k => pk4 k xa xb xc xd))] := hD
                      refine lv_aload_n hx hb dX4_work_161 rfl (lv_at hl 0 rfl) ?_
                      refine k_get hx hb hts hown hK hP iw_X4_work_X4 rfl 0 5 fm_X4_work_20 (by decide) rfl rfl dX4_work_162 ?_
                      refine lv_iconst (v := nI 4) hx hb dX4_work_165 (by decide) ?_
                      refine lv_aload_n hx hb dX4_work_166 rfl (lv_at hl 0 rfl) ?_
                      refine k_get hx hb hts hown hK hP iw_X4_work_X4 rfl 0 3 fm_X4_work_49 (by decide) rfl rfl dX4_work_167 ?_
                      refine lv_imul hx hb dX4_work_170 ?_
                      refine k_ei (y := nI ((gMw x) * 4)) ((pk_mul _ _).trans (congrArg nI (Nat.mul_comm _ _))) ?_
                      refine lv_iload hx hb dX4_work_171 (lv_at hl 6 rfl) ?_
                      refine lv_iadd hx hb dX4_work_173 ?_
                      refine k_ei (y := nI ((gMw x) * 4 + k)) (nI_add _ _) ?_
                      refine lv_iload hx hb dX4_work_174 (lv_at hl 6 rfl) ?_
                      refine lv_aload_n hx hb dX4_work_176 rfl (lv_at hl 0 rfl) ?_
                      refine go_i (wc := [(md 0, .inr (4, [.int (nI 0), .int (nI (gMi x)), .int (nI (gMo x)), .int (nI (gMw x)), .ref (md 1), .ref (md 2), .ref (md 3), .int (nI (gNi x)), .int (nI (gNo x)), .ref (md 4), .ref (md 5), .ref (md 6), .int (nI (gNs x)), .ref (md 7), .ref (md 8), .int (nI (gNb x)), .int (nI (gWd x)), .ref (md 9), .long (gTp x), .long (gBl x), .long (gWt x), .long (gWb x)]))]) (wr := [(md 1, aI g 48 (upd f (gMw x * 4 + k) (if k < gMi x + gMo x then pk4 k xa xb xc xd else nI 0))), (md 2, aI g 48 h), (md 3, aZ g 12 (gTr x)), (md 4, aI g 48 (gNu x)), (md 5, aZ g 12 (gAm x)), (md 6, aJ g 13000 (gSd x)), (md 7, aJ g 85 (gBd x)), (md 8, aJ g 5 (gWy x)), (md 9, aI g 5 (fun j => nI ((gCh x) j))), (q_1, aI g 4 (fun k => pk4 k xa xb xc xd))]) hP hD hS hA [0] [1, 2, 3, 4, 5, 6, 7, 8, 9, 10] rfl rfl rfl rfl (by decide) (fun hPc hDc => rn_V (As := []) (rest := [.int (nI k), .int (nI ((gMw x) * 4 + k)), .ref (md 2)]) ⟨hx, hb, hml, hown, hts⟩ ((c_X4_things l g md (nI 0) (gMi x) (gMo x) (gMw x) (gNi x) (gNo x) (gNs x) (gNb x) (gWd x) (gTp x) (gBl x) (gWt x) (gWb x) ) _) (cw_X4_work_56_0_0 hts hN ⟨Nat.le_of_ble_eq_true rfl, Nat.le_of_ble_eq_true rfl⟩) hK hN hPc hDc 0 rfl rfl rfl rfl hl.1 (Nat.le_of_ble_eq_true rfl) dX4_work_177 ⟨Nat.le_of_ble_eq_true rfl, Nat.le_of_ble_eq_true rfl⟩) ?_
                      intro r_13 u_14 H locs h_15 hP hD hS
                      have hP : va_P g.1 vwCl [(md 0, .inr (4, [.int (nI 0), .int (nI (gMi x)), .int (nI (gMo x)), .int (nI (gMw x)), .ref (md 1), .ref (md 2), .ref (md 3), .int (nI (gNi x)), .int (nI (gNo x)), .ref (md 4), .ref (md 5), .ref (md 6), .int (nI (gNs x)), .ref (md 7), .ref (md 8), .int (nI (gNb x)), .int (nI (gWd x)), .ref (md 9), .long (gTp x), .long (gBl x), .long (gWt x), .long (gWb x)])), (md 1, aI g 48 (upd f (gMw x * 4 + k) (if k < gMi x + gMo x then pk4 k xa xb xc xd else nI 0))), (md 2, aI g 48 h), (md 3, aZ g 12 (gTr x)), (md 4, aI g 48 (gNu x)), (md 5, aZ g 12 (gAm x)), (md 6, aJ g 13000 (gSd x)), (md 7, aJ g 85 (gBd x)), (md 8, aJ g 5 (gWy x)), (md 9, aI g 5 (fun j => nI ((gCh x) j))), (q_1, aI g 4 (fun k => pk4 k xa xb xc xd))] H := hP.sub [10, 0, 1, 2, 3, 4, 5, 6, 7, 8, 9] rfl
                      have hD : va_D A [(md 0, .inr (4, [.int (nI 0), .int (nI (gMi x)), .int (nI (gMo x)), .int (nI (gMw x)), .ref (md 1), .ref (md 2), .ref (md 3), .int (nI (gNi x)), .int (nI (gNo x)), .ref (md 4), .ref (md 5), .ref (md 6), .int (nI (gNs x)), .ref (md 7), .ref (md 8), .int (nI (gNb x)), .int (nI (gWd x)), .ref (md 9), .long (gTp x), .long (gBl x), .long (gWt x), .long (gWb x)])), (md 1, aI g 48 (upd f (gMw x * 4 + k) (if k < gMi x + gMo x then pk4 k xa xb xc xd else nI 0))), (md 2, aI g 48 h), (md 3, aZ g 12 (gTr x)), (md 4, aI g 48 (gNu x)), (md 5, aZ g 12 (gAm x)), (md 6, aJ g 13000 (gSd x)), (md 7, aJ g 85 (gBd x)), (md 8, aJ g 5 (gWy x)), (md 9, aI g 5 (fun j => nI ((gCh x) j))), (q_1, aI g 4 (fun k => pk4 k xa xb xc xd))] := hD.sub [10, 0, 1, 2, 3, 4, 5, 6, 7, 8, 9] rfl rfl
                      have h_15 : r_13 = nI ((gMi x) + (gMo x)) := h_15
                      subst h_15
                      have lp_192 : ∀ (H : Heap) (locs : List Loc), va_P g.1 vwCl [(md 0, .inr (4, [.int (nI 0), .int (nI (gMi x)), .int (nI (gMo x)), .int (nI (gMw x)), .ref (md 1), .ref (md 2), .ref (md 3), .int (nI (gNi x)), .int (nI (gNo x)), .ref (md 4), .ref (md 5), .ref (md 6), .int (nI (gNs x)), .ref (md 7), .ref (md 8), .int (nI (gNb x)), .int (nI (gWd x)), .ref (md 9), .long (gTp x), .long (gBl x), .long (gWt x), .long (gWb x)])), (md 1, aI g 48 (upd f (gMw x * 4 + k) (if k < gMi x + gMo x then pk4 k xa xb xc xd else nI 0))), (md 2, aI g 48 h), (md 3, aZ g 12 (gTr x)), (md 4, aI g 48 (gNu x)), (md 5, aZ g 12 (gAm x)), (md 6, aJ g 13000 (gSd x)), (md 7, aJ g 85 (gBd x)), (md 8, aJ g 5 (gWy x)), (md 9, aI g 5 (fun j => nI ((gCh x) j))), (q_1, aI g 4 (fun k => pk4 k xa xb xc xd))] H → va_D A [(md 0, .inr (4, [.int (nI 0), .int (nI (gMi x)), .int (nI (gMo x)), .int (nI (gMw x)), .ref (md 1), .ref (md 2), .ref (md 3), .int (nI (gNi x)), .int (nI (gNo x)), .ref (md 4), .ref (md 5), .ref (md 6), .int (nI (gNs x)), .ref (md 7), .ref (md 8), .int (nI (gNb x)), .int (nI (gWd x)), .ref (md 9), .long (gTp x), .long (gBl x), .long (gWt x), .long (gWb x)])), (md 1, aI g 48 (upd f (gMw x * 4 + k) (if k < gMi x + gMo x then pk4 k xa xb xc xd else nI 0))), (md 2, aI g 48 h), (md 3, aZ g 12 (gTr x)), (md 4, aI g 48 (gNu x)), (md 5, aZ g 12 (gAm x)), (md 6, aJ g 13000 (gSd x)), (md 7, aJ g 85 (gBd x)), (md 8, aJ g 5 (gWy x)), (md 9, aI g 5 (fun j => nI ((gCh x) j))), (q_1, aI g 4 (fun k => pk4 k xa xb xc xd))] → va_S A s.heap H locs → ∀ ls : Array Slot, lv_has ls 9 [(0, .ref (md 0)), (1, .int (xa)), (2, .int (xb)), (3, .int (xc)), (4, .int (xd)), (5, .ref (q_1)), (8, .int (nI k))] → W p l e { frames := 1, cells := 1, slots := 4, locals := 22 } s m args below meth c H locs 1 4 Q (F0 m 192 ls [.int (if k < gMi x + gMo x then pk4 k xa xb xc xd else nI 0), .int (nI (gMw x * 4 + k)), .ref (md 2)]) := by
                        intro   H locs hP hD hS ls hl
                        refine k_iast hx hb hK hP hD hS 2 rfl (by omega) (by omega) dX4_work_192 (fun H locs hP hD hS => ?_)
                        have hP : va_P g.1 vwCl [(md 0, .inr (4, [.int (nI 0), .int (nI (gMi x)), .int (nI (gMo x)), .int (nI (gMw x)), .ref (md 1), .ref (md 2), .ref (md 3), .int (nI (gNi x)), .int (nI (gNo x)), .ref (md 4), .ref (md 5), .ref (md 6), .int (nI (gNs x)), .ref (md 7), .ref (md 8), .int (nI (gNb x)), .int (nI (gWd x)), .ref (md 9), .long (gTp x), .long (gBl x), .long (gWt x), .long (gWb x)])), (md 1, aI g 48 (upd f (gMw x * 4 + k) (if k < gMi x + gMo x then pk4 k xa xb xc xd else nI 0))), (md 2, aI g 48 (upd h (gMw x * 4 + k) (if k < gMi x + gMo x then pk4 k xa xb xc xd else nI 0))), (md 3, aZ g 12 (gTr x)), (md 4, aI g 48 (gNu x)), (md 5, aZ g 12 (gAm x)), (md 6, aJ g 13000 (gSd x)), (md 7, aJ g 85 (gBd x)), (md 8, aJ g 5 (gWy x)), (md 9, aI g 5 (fun j => nI ((gCh x) j))), (q_1, aI g 4 (fun k => pk4 k xa xb xc xd))] H := hP
                        have hD : va_D A [(md 0, .inr (4, [.int (nI 0), .int (nI (gMi x)), .int (nI (gMo x)), .int (nI (gMw x)), .ref (md 1), .ref (md 2), .ref (md 3), .int (nI (gNi x)), .int (nI (gNo x)), .ref (md 4), .ref (md 5), .ref (md 6), .int (nI (gNs x)), .ref (md 7), .ref (md 8), .int (nI (gNb x)), .int (nI (gWd x)), .ref (md 9), .long (gTp x), .long (gBl x), .long (gWt x), .long (gWb x)])), (md 1, aI g 48 (upd f (gMw x * 4 + k) (if k < gMi x + gMo x then pk4 k xa xb xc xd else nI 0))), (md 2, aI g 48 (upd h (gMw x * 4 + k) (if k < gMi x + gMo x then pk4 k xa xb xc xd else nI 0))), (md 3, aZ g 12 (gTr x)), (md 4, aI g 48 (gNu x)), (md 5, aZ g 12 (gAm x)), (md 6, aJ g 13000 (gSd x)), (md 7, aJ g 85 (gBd x)), (md 8, aJ g 5 (gWy x)), (md 9, aI g 5 (fun j => nI ((gCh x) j))), (q_1, aI g 4 (fun k => pk4 k xa xb xc xd))] := hD
                        refine lv_iinc (v := nI (k + 1)) (lv' := [(8, .int (nI (k + 1))), (0, .ref (md 0)), (1, .int (xa)), (2, .int (xb)), (3, .int (xc)), (4, .int (xd)), (5, .ref (q_1))]) hx hb dX4_work_193 hl (k := 6) rfl (nI_inc1 k) (by decide) rfl (fun ls hl => ?_)
                        refine lv_goto (tgt := 123) hx hb dX4_work_196 (by decide) ?_
                        exact ih_123 (k + 1) (upd f (gMw x * 4 + k) (if k < gMi x + gMo x then pk4 k xa xb xc xd else nI 0)) (upd h (gMw x * 4 + k) (if k < gMi x + gMo x then pk4 k xa xb xc xd else nI 0)) (by omega) (by omega) (by rw [hf, show 4 - k = (4 - (k + 1)) + 1 by omega, wkG]) (by rw [hh, show 4 - k = (4 - (k + 1)) + 1 by omega, wkG]) _ _ hP hD hS ls (lv_sub hl [1, 2, 3, 4, 5, 6, 0] rfl)
                      refine lv_icmp_ge (tgt := 191) hx hb dX4_work_180 (by decide) (fun c_16 => ?_) (fun c_16 => ?_)
                      · skip
                        have c_16 := (nI_leI (by omega) (by omega)).mp c_16
                        refine lv_iconst (v := nI 0) hx hb dX4_work_191 (by decide) ?_
                        refine k_ei (y := if k < gMi x + gMo x then pk4 k xa xb xc xd else nI 0) ((if_neg (show ¬ k < gMi x + gMo x by omega)).symm) ?_
                        exact lp_192   _ _ hP hD hS ls (lv_sub hl [0, 1, 2, 3, 4, 5, 6] rfl)
                      · skip
                        have c_16 := mt (nI_leI (by omega) (by omega)).mpr c_16
                        refine lv_aload hx hb dX4_work_183 (lv_at hl 5 rfl) ?_
                        refine lv_iload hx hb dX4_work_185 (lv_at hl 6 rfl) ?_
                        refine k_iald hx hb hK hP 10 rfl (by omega) (by omega) dX4_work_187 ?_
                        refine k_ei (y := if k < gMi x + gMo x then pk4 k xa xb xc xd else nI 0) ((if_pos (show k < gMi x + gMo x by omega)).symm) ?_
                        refine lv_goto (tgt := 192) hx hb dX4_work_188 (by decide) ?_
                        exact lp_192   _ _ hP hD hS ls (lv_sub hl [0, 1, 2, 3, 4, 5, 6] rfl)
                    refine lv_icmp_ge (tgt := 159) hx hb dX4_work_148 (by decide) (fun c_17 => ?_) (fun c_17 => ?_)
                    · skip
                      have c_17 := (nI_leI (by omega) (by omega)).mp c_17
                      refine lv_iconst (v := nI 0) hx hb dX4_work_159 (by decide) ?_
                      refine k_ei (y := if k < gMi x + gMo x then pk4 k xa xb xc xd else nI 0) ((if_neg (show ¬ k < gMi x + gMo x by omega)).symm) ?_
                      exact lp_160   _ _ hP hD hS ls (lv_sub hl [0, 1, 2, 3, 4, 5, 6] rfl)
                    · skip
                      have c_17 := mt (nI_leI (by omega) (by omega)).mpr c_17
                      refine lv_aload hx hb dX4_work_151 (lv_at hl 5 rfl) ?_
                      refine lv_iload hx hb dX4_work_153 (lv_at hl 6 rfl) ?_
                      refine k_iald hx hb hK hP 10 rfl (by omega) (by omega) dX4_work_155 ?_
                      refine k_ei (y := if k < gMi x + gMo x then pk4 k xa xb xc xd else nI 0) ((if_pos (show k < gMi x + gMo x by omega)).symm) ?_
                      refine lv_goto (tgt := 160) hx hb dX4_work_156 (by decide) ?_
                      exact lp_160   _ _ hP hD hS ls (lv_sub hl [0, 1, 2, 3, 4, 5, 6] rfl)
              exact lp_123 (4 - 0 + 1) 0 (gLo x) (gHi x) (by omega) (by omega) rfl rfl _ _ hP hD hS ls (lv_sub hl [1, 2, 3, 4, 5, 6, 0] rfl)
            · skip
              have hno : ¬ wkD x xa xb xc xd := fun q => by
                obtain ⟨-, q, q1, q2, q3⟩ := q
                rw [hq] at q1
                cases q1
                exact q3 c_8
              refine lv_iconst (v := -1) hx hb dX4_work_118 (by decide) ?_
              have hP := hP.sub (ws' := [(md 0, .inr (4, [.int (nI 0), .int (nI (gMi x)), .int (nI (gMo x)), .int (nI (gMw x)), .ref (md 1), .ref (md 2), .ref (md 3), .int (nI (gNi x)), .int (nI (gNo x)), .ref (md 4), .ref (md 5), .ref (md 6), .int (nI (gNs x)), .ref (md 7), .ref (md 8), .int (nI (gNb x)), .int (nI (gWd x)), .ref (md 9), .long (gTp x), .long (gBl x), .long (gWt x), .long (gWb x)])), (md 1, aI g 48 (gLo x)), (md 2, aI g 48 (gHi x)), (md 3, aZ g 12 (gTr x)), (md 4, aI g 48 (gNu x)), (md 5, aZ g 12 (gAm x)), (md 6, aJ g 13000 (gSd x)), (md 7, aJ g 85 (gBd x)), (md 8, aJ g 5 (gWy x)), (md 9, aI g 5 (fun j => nI ((gCh x) j)))]) [0, 1, 2, 3, 4, 5, 6, 7, 8, 9] rfl
              have hD := hD.sub (ws' := [(md 0, .inr (4, [.int (nI 0), .int (nI (gMi x)), .int (nI (gMo x)), .int (nI (gMw x)), .ref (md 1), .ref (md 2), .ref (md 3), .int (nI (gNi x)), .int (nI (gNo x)), .ref (md 4), .ref (md 5), .ref (md 6), .int (nI (gNs x)), .ref (md 7), .ref (md 8), .int (nI (gNb x)), .int (nI (gWd x)), .ref (md 9), .long (gTp x), .long (gBl x), .long (gWt x), .long (gWb x)])), (md 1, aI g 48 (gLo x)), (md 2, aI g 48 (gHi x)), (md 3, aZ g 12 (gTr x)), (md 4, aI g 48 (gNu x)), (md 5, aZ g 12 (gAm x)), (md 6, aJ g 13000 (gSd x)), (md 7, aJ g 85 (gBd x)), (md 8, aJ g 5 (gWy x)), (md 9, aI g 5 (fun j => nI ((gCh x) j)))]) [0, 1, 2, 3, 4, 5, 6, 7, 8, 9] rfl rfl
              exact ret dX4_work_119 ((nI 0, gMi x, gMo x, gMw x, gLo x, gHi x, gTr x, gNi x, gNo x, gNu x, gAm x, gSd x, gNs x, gBd x, gWy x, gNb x, gWd x, (gCh x), gTp x, gBl x, gWt x, gWb x)) (Or.inr ⟨hno, rfl, ⟨rfl, rfl, rfl, rfl, rfl, rfl⟩⟩) hP hD hS
      · skip
        have c_5 := mt (nI_leI (by omega) (by omega)).mpr c_5
        refine lv_aload hx hb dX4_work_45 (lv_at hl 5 rfl) ?_
        refine lv_iload hx hb dX4_work_47 (lv_at hl 8 rfl) ?_
        refine k_iald hx hb hK hP 10 rfl (by omega) (by omega) dX4_work_49 ?_
        refine k_ei (y := pk4 k xa xb xc xd) (rfl) ?_
        refine lv_iconst (v := nI 0) hx hb dX4_work_50 (by decide) ?_
        refine lv_bipush (v := nI 30) hx hb dX4_work_51 (by decide) ?_
        refine go_i (wc := []) (wr := [(md 0, .inr (4, [.int (nI 0), .int (nI (gMi x)), .int (nI (gMo x)), .int (nI (gMw x)), .ref (md 1), .ref (md 2), .ref (md 3), .int (nI (gNi x)), .int (nI (gNo x)), .ref (md 4), .ref (md 5), .ref (md 6), .int (nI (gNs x)), .ref (md 7), .ref (md 8), .int (nI (gNb x)), .int (nI (gWd x)), .ref (md 9), .long (gTp x), .long (gBl x), .long (gWt x), .long (gWb x)])), (md 1, aI g 48 (gLo x)), (md 2, aI g 48 (gHi x)), (md 3, aZ g 12 (gTr x)), (md 4, aI g 48 (gNu x)), (md 5, aZ g 12 (gAm x)), (md 6, aJ g 13000 (gSd x)), (md 7, aJ g 85 (gBd x)), (md 8, aJ g 5 (gWy x)), (md 9, aI g 5 (fun j => nI ((gCh x) j))), (q_1, aI g 4 (fun k => pk4 k xa xb xc xd))]) hP hD hS hA [] [0, 1, 2, 3, 4, 5, 6, 7, 8, 9, 10] rfl rfl rfl rfl (by decide) (fun hPc hDc => rn_S (As := [.int (pk4 k xa xb xc xd), .int (nI 0), .int (nI 30)]) (rest := []) ⟨hx, hb, hml, hown, hts⟩ ((c_X4_isIn l g (pk4 k xa xb xc xd) (nI 0) (nI 30) ) _) (cw_X4_work_52_0_0 hts hN ⟨Nat.le_of_ble_eq_true rfl, Nat.le_of_ble_eq_true rfl⟩) hK hN hPc hDc rfl rfl hl.1 (Nat.le_of_ble_eq_true rfl) dX4_work_53 ⟨Nat.le_of_ble_eq_true rfl, Nat.le_of_ble_eq_true rfl⟩) ?_
        intro r_18 u_19 H locs h_20 hP hD hS
        have hP : va_P g.1 vwCl [(md 0, .inr (4, [.int (nI 0), .int (nI (gMi x)), .int (nI (gMo x)), .int (nI (gMw x)), .ref (md 1), .ref (md 2), .ref (md 3), .int (nI (gNi x)), .int (nI (gNo x)), .ref (md 4), .ref (md 5), .ref (md 6), .int (nI (gNs x)), .ref (md 7), .ref (md 8), .int (nI (gNb x)), .int (nI (gWd x)), .ref (md 9), .long (gTp x), .long (gBl x), .long (gWt x), .long (gWb x)])), (md 1, aI g 48 (gLo x)), (md 2, aI g 48 (gHi x)), (md 3, aZ g 12 (gTr x)), (md 4, aI g 48 (gNu x)), (md 5, aZ g 12 (gAm x)), (md 6, aJ g 13000 (gSd x)), (md 7, aJ g 85 (gBd x)), (md 8, aJ g 5 (gWy x)), (md 9, aI g 5 (fun j => nI ((gCh x) j))), (q_1, aI g 4 (fun k => pk4 k xa xb xc xd))] H := hP.sub [0, 1, 2, 3, 4, 5, 6, 7, 8, 9, 10] rfl
        have hD : va_D A [(md 0, .inr (4, [.int (nI 0), .int (nI (gMi x)), .int (nI (gMo x)), .int (nI (gMw x)), .ref (md 1), .ref (md 2), .ref (md 3), .int (nI (gNi x)), .int (nI (gNo x)), .ref (md 4), .ref (md 5), .ref (md 6), .int (nI (gNs x)), .ref (md 7), .ref (md 8), .int (nI (gNb x)), .int (nI (gWd x)), .ref (md 9), .long (gTp x), .long (gBl x), .long (gWt x), .long (gWb x)])), (md 1, aI g 48 (gLo x)), (md 2, aI g 48 (gHi x)), (md 3, aZ g 12 (gTr x)), (md 4, aI g 48 (gNu x)), (md 5, aZ g 12 (gAm x)), (md 6, aJ g 13000 (gSd x)), (md 7, aJ g 85 (gBd x)), (md 8, aJ g 5 (gWy x)), (md 9, aI g 5 (fun j => nI ((gCh x) j))), (q_1, aI g 4 (fun k => pk4 k xa xb xc xd))] := hD.sub [0, 1, 2, 3, 4, 5, 6, 7, 8, 9, 10] rfl rfl
        have h_20 : r_18 = bI (isI (pk4 k xa xb xc xd) (nI 0) (nI 30)) := h_20
        subst h_20
        refine lv_if_ne (tgt := 61) hx hb dX4_work_56 (by decide) (fun c_21 => ?_) (fun c_21 => ?_)
        · skip
          have hnm := bI_ne0.mp c_21
          rw [isI_num] at hnm
          refine lv_iload hx hb dX4_work_61 (lv_at hl 8 rfl) ?_
          refine lv_aload_n hx hb dX4_work_63 rfl (lv_at hl 0 rfl) ?_
          refine k_get hx hb hts hown hK hP iw_X4_work_X4 rfl 0 1 fm_X4_work_9 (by decide) rfl rfl dX4_work_64 ?_
          refine lv_icmp_ge (tgt := 83) hx hb dX4_work_67 (by decide) (fun c_22 => ?_) (fun c_22 => ?_)
          · skip
            have c_22 := (nI_leI (by omega) (by omega)).mp c_22
            have hv2 : wkL (gMi x) xa xb xc xd 0 (gMi x + gMo x) (0, 0) = wkL (gMi x) xa xb xc xd (k + 1) (gMi x + gMo x - (k + 1)) (si, so + pk4 k xa xb xc xd) := by rw [hv, show gMi x + gMo x - k = (gMi x + gMo x - (k + 1)) + 1 by omega, wkL, if_pos hnm, if_neg (by omega)]
            refine lv_iload hx hb dX4_work_83 (lv_at hl 7 rfl) ?_
            refine lv_aload hx hb dX4_work_85 (lv_at hl 5 rfl) ?_
            refine lv_iload hx hb dX4_work_87 (lv_at hl 8 rfl) ?_
            refine k_iald hx hb hK hP 10 rfl (by omega) (by omega) dX4_work_89 ?_
            refine k_ei (y := pk4 k xa xb xc xd) (rfl) ?_
            refine lv_iadd hx hb dX4_work_90 ?_
            refine lv_istore (lv' := [(7, .int (so + (pk4 k xa xb xc xd))), (0, .ref (md 0)), (1, .int (xa)), (2, .int (xb)), (3, .int (xc)), (4, .int (xd)), (5, .ref (q_1)), (6, .int (si)), (8, .int (nI k))]) hx hb dX4_work_91 hl (by decide) rfl (fun ls hl => ?_)
            refine lv_iinc (v := nI (k + 1)) (lv' := [(8, .int (nI (k + 1))), (7, .int (so + (pk4 k xa xb xc xd))), (0, .ref (md 0)), (1, .int (xa)), (2, .int (xb)), (3, .int (xc)), (4, .int (xd)), (5, .ref (q_1)), (6, .int (si))]) hx hb dX4_work_93 hl (k := 8) rfl (nI_inc1 k) (by decide) rfl (fun ls hl => ?_)
            refine lv_goto (tgt := 36) hx hb dX4_work_96 (by decide) ?_
            exact ih_36 si (so + (pk4 k xa xb xc xd)) (k + 1) (by omega) (by omega) hv2 _ _ hP hD hS ls (lv_sub hl [2, 3, 4, 5, 6, 7, 8, 1, 0] rfl)
          · skip
            have c_22 := mt (nI_leI (by omega) (by omega)).mpr c_22
            have hv2 : wkL (gMi x) xa xb xc xd 0 (gMi x + gMo x) (0, 0) = wkL (gMi x) xa xb xc xd (k + 1) (gMi x + gMo x - (k + 1)) (si + pk4 k xa xb xc xd, so) := by rw [hv, show gMi x + gMo x - k = (gMi x + gMo x - (k + 1)) + 1 by omega, wkL, if_pos hnm, if_pos (by omega)]
            refine lv_iload hx hb dX4_work_70 (lv_at hl 6 rfl) ?_
            refine lv_aload hx hb dX4_work_72 (lv_at hl 5 rfl) ?_
            refine lv_iload hx hb dX4_work_74 (lv_at hl 8 rfl) ?_
            refine k_iald hx hb hK hP 10 rfl (by omega) (by omega) dX4_work_76 ?_
            refine k_ei (y := pk4 k xa xb xc xd) (rfl) ?_
            refine lv_iadd hx hb dX4_work_77 ?_
            refine lv_istore (lv' := [(6, .int (si + (pk4 k xa xb xc xd))), (0, .ref (md 0)), (1, .int (xa)), (2, .int (xb)), (3, .int (xc)), (4, .int (xd)), (5, .ref (q_1)), (7, .int (so)), (8, .int (nI k))]) hx hb dX4_work_78 hl (by decide) rfl (fun ls hl => ?_)
            refine lv_goto (tgt := 93) hx hb dX4_work_80 (by decide) ?_
            refine lv_iinc (v := nI (k + 1)) (lv' := [(8, .int (nI (k + 1))), (6, .int (si + (pk4 k xa xb xc xd))), (0, .ref (md 0)), (1, .int (xa)), (2, .int (xb)), (3, .int (xc)), (4, .int (xd)), (5, .ref (q_1)), (7, .int (so))]) hx hb dX4_work_93 hl (k := 8) rfl (nI_inc1 k) (by decide) rfl (fun ls hl => ?_)
            refine lv_goto (tgt := 36) hx hb dX4_work_96 (by decide) ?_
            exact ih_36 (si + (pk4 k xa xb xc xd)) so (k + 1) (by omega) (by omega) hv2 _ _ hP hD hS ls (lv_sub hl [2, 3, 4, 5, 6, 7, 1, 8, 0] rfl)
        · skip
          have hno : ¬ wkD x xa xb xc xd := fun q => by
            obtain ⟨-, q, q1, -⟩ := q
            rw [hv, show gMi x + gMo x - k = (gMi x + gMo x - (k + 1)) + 1 by omega, wkL, if_neg (by rw [← isI_num, bI_eq0.mp c_21]; decide)] at q1
            cases q1
          refine lv_iconst (v := -1) hx hb dX4_work_59 (by decide) ?_
          have hP := hP.sub (ws' := [(md 0, .inr (4, [.int (nI 0), .int (nI (gMi x)), .int (nI (gMo x)), .int (nI (gMw x)), .ref (md 1), .ref (md 2), .ref (md 3), .int (nI (gNi x)), .int (nI (gNo x)), .ref (md 4), .ref (md 5), .ref (md 6), .int (nI (gNs x)), .ref (md 7), .ref (md 8), .int (nI (gNb x)), .int (nI (gWd x)), .ref (md 9), .long (gTp x), .long (gBl x), .long (gWt x), .long (gWb x)])), (md 1, aI g 48 (gLo x)), (md 2, aI g 48 (gHi x)), (md 3, aZ g 12 (gTr x)), (md 4, aI g 48 (gNu x)), (md 5, aZ g 12 (gAm x)), (md 6, aJ g 13000 (gSd x)), (md 7, aJ g 85 (gBd x)), (md 8, aJ g 5 (gWy x)), (md 9, aI g 5 (fun j => nI ((gCh x) j)))]) [0, 1, 2, 3, 4, 5, 6, 7, 8, 9] rfl
          have hD := hD.sub (ws' := [(md 0, .inr (4, [.int (nI 0), .int (nI (gMi x)), .int (nI (gMo x)), .int (nI (gMw x)), .ref (md 1), .ref (md 2), .ref (md 3), .int (nI (gNi x)), .int (nI (gNo x)), .ref (md 4), .ref (md 5), .ref (md 6), .int (nI (gNs x)), .ref (md 7), .ref (md 8), .int (nI (gNb x)), .int (nI (gWd x)), .ref (md 9), .long (gTp x), .long (gBl x), .long (gWt x), .long (gWb x)])), (md 1, aI g 48 (gLo x)), (md 2, aI g 48 (gHi x)), (md 3, aZ g 12 (gTr x)), (md 4, aI g 48 (gNu x)), (md 5, aZ g 12 (gAm x)), (md 6, aJ g 13000 (gSd x)), (md 7, aJ g 85 (gBd x)), (md 8, aJ g 5 (gWy x)), (md 9, aI g 5 (fun j => nI ((gCh x) j)))]) [0, 1, 2, 3, 4, 5, 6, 7, 8, 9] rfl rfl
          exact ret dX4_work_60 ((nI 0, gMi x, gMo x, gMw x, gLo x, gHi x, gTr x, gNi x, gNo x, gNu x, gAm x, gSd x, gNs x, gBd x, gWy x, gNb x, gWd x, (gCh x), gTp x, gBl x, gWt x, gWb x)) (Or.inr ⟨hno, rfl, ⟨rfl, rfl, rfl, rfl, rfl, rfl⟩⟩) hP hD hS
  exact lp_36 (gMi x + gMo x - 0 + 1) (nI 0) (nI 0) 0 (by omega) (by omega) rfl _ _ hP hD hS ls (lv_sub hl [4, 5, 6, 7, 8, 3, 2, 1, 0] rfl)
theorem iw_X4_missingThere_X4 : ∀ w ∈ wsX40, w ∈ wsX4_missingThere := fun w h => List.mem_cons_of_mem _ (List.mem_append_right _ h)
theorem fm_X4_missingThere_49 : Cond.fieldLink RX4 49 "EdgeBenchModel" "works" "I" ∈ wsX4_missingThere := List.mem_of_getElem? (i := 1) rfl
theorem cw_X4_missingThere_56_0_0 {R : Room} {s : State} {args : Array Value} (hts : ∀ w ∈ wsX4_missingThere, w.before args s = true) (hN : nsW s) (hR : 0 + 1 ≤ R.frames ∧ 8 + (1 + 11) + 0 ≤ R.locals) : CallW R s args RX4 RX4 56 yX4_things cX4_things 1 (some .int) wsX4_things { frames := 0, cells := 0, slots := 0, locals := 0 } 0 0 0 := cwV 0 hts gX4_missingThere_X4_things rfl rfl rfl ⟨rfl, hdn_X4_things⟩ hR
theorem fm_X4_missingThere_23 : Cond.fieldLink RX4 23 "EdgeBenchModel" "there" "[Z" ∈ wsX4_missingThere := List.mem_of_getElem? (i := 2) rfl
theorem fm_X4_missingThere_16 : Cond.fieldLink RX4 16 "EdgeBenchModel" "low" "[I" ∈ wsX4_missingThere := List.mem_of_getElem? (i := 3) rfl
theorem fm_X4_missingThere_20 : Cond.fieldLink RX4 20 "EdgeBenchModel" "high" "[I" ∈ wsX4_missingThere := List.mem_of_getElem? (i := 4) rfl
set_option maxHeartbeats 20000000 in
set_option maxRecDepth 100000 in
theorem c_X4_missingThere (l : Launch) (g : Gt) (md : Nat → Nat) (xt : Int32) (mi : Nat) (mo : Nat) (mw : Nat) (ni : Nat) (no : Nat) (ns : Nat) (nb : Nat) (wd : Nat) (tp : Int64) (bl : Int64) (wt : Int64) (wb : Int64) (lo : Nat → Int32) (hi : Nat → Int32) (tr : Nat → Int32) (hmw : mw ≤ 12) (hmi : mi ≤ 2) (hmo : mo ≤ 2) : CI l yX4_missingThere wsX4_missingThere { frames := 1, cells := 0, slots := 0, locals := 20 } g [.ref (md 0)] [(md 0, .inr (4, [.int (xt), .int (nI mi), .int (nI mo), .int (nI mw), .ref (md 1), .ref (md 2), .ref (md 3), .int (nI ni), .int (nI no), .ref (md 4), .ref (md 5), .ref (md 6), .int (nI ns), .ref (md 7), .ref (md 8), .int (nI nb), .int (nI wd), .ref (md 9), .long (tp), .long (bl), .long (wt), .long (wb)])), (md 1, aI g 48 lo), (md 2, aI g 48 hi), (md 3, aZ g 12 tr)] (fun zr (zu : Unit) => zr = nI (msO lo hi tr (mi + mo) 0 mw)) (fun (zu : Unit) => [(md 0, .inr (4, [.int (xt), .int (nI mi), .int (nI mo), .int (nI mw), .ref (md 1), .ref (md 2), .ref (md 3), .int (nI ni), .int (nI no), .ref (md 4), .ref (md 5), .ref (md 6), .int (nI ns), .ref (md 7), .ref (md 8), .int (nI nb), .int (nI wd), .ref (md 9), .long (tp), .long (bl), .long (wt), .long (wb)])), (md 1, aI g 48 lo), (md 2, aI g 48 hi), (md 3, aZ g 12 tr)]) 0 0 := by
  refine ent_i (cc := cX4_missingThere) (maxL := 4) (by decide) rfl (Nat.le_of_ble_eq_true rfl) ?_
  intro p e s m below meth c A args Q hE ret ls hl
  obtain ⟨hx, hb, hml, hown, hts, hnm, hA, hP, hD, hK, hN⟩ := hE
  have hS : va_S A s.heap s.heap [] := va_S.rf
  have hl : lv_has ls 4 [(0, .ref (md 0))] := hl
  have hP : va_P g.1 vwCl [(md 0, .inr (4, [.int (xt), .int (nI mi), .int (nI mo), .int (nI mw), .ref (md 1), .ref (md 2), .ref (md 3), .int (nI ni), .int (nI no), .ref (md 4), .ref (md 5), .ref (md 6), .int (nI ns), .ref (md 7), .ref (md 8), .int (nI nb), .int (nI wd), .ref (md 9), .long (tp), .long (bl), .long (wt), .long (wb)])), (md 1, aI g 48 lo), (md 2, aI g 48 hi), (md 3, aZ g 12 tr)] s.heap := hP
  refine lv_iconst (v := nI 0) hx hb dX4_missingThere_0 (by decide) ?_
  refine lv_istore_n (lv' := [(1, .int (nI 0)), (0, .ref (md 0))]) hx hb dX4_missingThere_1 rfl hl (by decide) rfl (fun ls hl => ?_)
  refine lv_iconst (v := nI 0) hx hb dX4_missingThere_2 (by decide) ?_
  refine lv_istore_n (lv' := [(2, .int (nI 0)), (1, .int (nI 0)), (0, .ref (md 0))]) hx hb dX4_missingThere_3 rfl hl (by decide) rfl (fun ls hl => ?_)
  have lp_4 : ∀ (n : Nat) (w : Nat) (q : Nat), mw - w < n → w ≤ mw → msO lo hi tr (mi + mo) 0 mw = q + msO lo hi tr (mi + mo) w (mw - w) → ∀ (H : Heap) (locs : List Loc), va_P g.1 vwCl [(md 0, .inr (4, [.int (xt), .int (nI mi), .int (nI mo), .int (nI mw), .ref (md 1), .ref (md 2), .ref (md 3), .int (nI ni), .int (nI no), .ref (md 4), .ref (md 5), .ref (md 6), .int (nI ns), .ref (md 7), .ref (md 8), .int (nI nb), .int (nI wd), .ref (md 9), .long (tp), .long (bl), .long (wt), .long (wb)])), (md 1, aI g 48 lo), (md 2, aI g 48 hi), (md 3, aZ g 12 tr)] H → va_D A [(md 0, .inr (4, [.int (xt), .int (nI mi), .int (nI mo), .int (nI mw), .ref (md 1), .ref (md 2), .ref (md 3), .int (nI ni), .int (nI no), .ref (md 4), .ref (md 5), .ref (md 6), .int (nI ns), .ref (md 7), .ref (md 8), .int (nI nb), .int (nI wd), .ref (md 9), .long (tp), .long (bl), .long (wt), .long (wb)])), (md 1, aI g 48 lo), (md 2, aI g 48 hi), (md 3, aZ g 12 tr)] → va_S A s.heap H locs → ∀ ls : Array Slot, lv_has ls 4 [(0, .ref (md 0)), (1, .int (nI q)), (2, .int (nI w))] → W p l e { frames := 1, cells := 0, slots := 0, locals := 20 } s m args below meth c H locs 0 0 Q (F0 m 4 ls []) := by
    intro n
    induction n with
    | zero =>
      intro w q hms
      omega
    | succ n ih_4 =>
      intro w q hms_4 hw hv H locs hP hD hS ls hl
      refine lv_iload_n hx hb dX4_missingThere_4 rfl (lv_at hl 2 rfl) ?_
      refine lv_aload_n hx hb dX4_missingThere_5 rfl (lv_at hl 0 rfl) ?_
      refine k_get hx hb hts hown hK hP iw_X4_missingThere_X4 rfl 0 3 fm_X4_missingThere_49 (by decide) rfl rfl dX4_missingThere_6 ?_
      refine lv_icmp_ge (tgt := 74) hx hb dX4_missingThere_9 (by decide) (fun c_1 => ?_) (fun c_1 => ?_)
      · skip
        have c_1 := (nI_leI (by omega) (by omega)).mp c_1
        refine lv_iload_n hx hb dX4_missingThere_74 rfl (lv_at hl 1 rfl) ?_
        exact ret dX4_missingThere_75 () (by rw [hv, show mw - w = 0 by omega]; rfl) hP hD hS
      · skip
        have c_1 := mt (nI_leI (by omega) (by omega)).mpr c_1
        refine lv_iconst (v := nI 0) hx hb dX4_missingThere_12 (by decide) ?_
        refine lv_istore_n (lv' := [(3, .int (nI 0)), (0, .ref (md 0)), (1, .int (nI q)), (2, .int (nI w))]) hx hb dX4_missingThere_13 rfl hl (by decide) rfl (fun ls hl => ?_)
        have lp_14 : ∀ (n : Nat) (k : Nat) (q : Nat), mi + mo - k < n → k ≤ 4 → msO lo hi tr (mi + mo) 0 mw = q + (msI lo hi tr w k (mi + mo - k) + msO lo hi tr (mi + mo) (w + 1) (mw - (w + 1))) → ∀ (H : Heap) (locs : List Loc), va_P g.1 vwCl [(md 0, .inr (4, [.int (xt), .int (nI mi), .int (nI mo), .int (nI mw), .ref (md 1), .ref (md 2), .ref (md 3), .int (nI ni), .int (nI no), .ref (md 4), .ref (md 5), .ref (md 6), .int (nI ns), .ref (md 7), .ref (md 8), .int (nI nb), .int (nI wd), .ref (md 9), .long (tp), .long (bl), .long (wt), .long (wb)])), (md 1, aI g 48 lo), (md 2, aI g 48 hi), (md 3, aZ g 12 tr)] H → va_D A [(md 0, .inr (4, [.int (xt), .int (nI mi), .int (nI mo), .int (nI mw), .ref (md 1), .ref (md 2), .ref (md 3), .int (nI ni), .int (nI no), .ref (md 4), .ref (md 5), .ref (md 6), .int (nI ns), .ref (md 7), .ref (md 8), .int (nI nb), .int (nI wd), .ref (md 9), .long (tp), .long (bl), .long (wt), .long (wb)])), (md 1, aI g 48 lo), (md 2, aI g 48 hi), (md 3, aZ g 12 tr)] → va_S A s.heap H locs → ∀ ls : Array Slot, lv_has ls 4 [(0, .ref (md 0)), (1, .int (nI q)), (2, .int (nI w)), (3, .int (nI k))] → W p l e { frames := 1, cells := 0, slots := 0, locals := 20 } s m args below meth c H locs 0 0 Q (F0 m 14 ls []) := by
          intro n
          induction n with
          | zero =>
            intro k q hms
            omega
          | succ n ih_14 =>
            intro k q hms_14 hk hI H locs hP hD hS ls hl
            refine lv_iload_n hx hb dX4_missingThere_14 rfl (lv_at hl 3 rfl) ?_
            refine lv_aload_n hx hb dX4_missingThere_15 rfl (lv_at hl 0 rfl) ?_
            refine go_i (wc := [(md 0, .inr (4, [.int (xt), .int (nI mi), .int (nI mo), .int (nI mw), .ref (md 1), .ref (md 2), .ref (md 3), .int (nI ni), .int (nI no), .ref (md 4), .ref (md 5), .ref (md 6), .int (nI ns), .ref (md 7), .ref (md 8), .int (nI nb), .int (nI wd), .ref (md 9), .long (tp), .long (bl), .long (wt), .long (wb)]))]) (wr := [(md 1, aI g 48 lo), (md 2, aI g 48 hi), (md 3, aZ g 12 tr)]) hP hD hS hA [0] [1, 2, 3] rfl rfl rfl rfl (by decide) (fun hPc hDc => rn_V (As := []) (rest := [.int (nI k)]) ⟨hx, hb, hml, hown, hts⟩ ((c_X4_things l g md xt mi mo mw ni no ns nb wd tp bl wt wb ) _) (cw_X4_missingThere_56_0_0 hts hN ⟨Nat.le_of_ble_eq_true rfl, Nat.le_of_ble_eq_true rfl⟩) hK hN hPc hDc 0 rfl rfl rfl rfl hl.1 (Nat.le_of_ble_eq_true rfl) dX4_missingThere_16 ⟨Nat.le_of_ble_eq_true rfl, Nat.le_of_ble_eq_true rfl⟩) ?_
            intro r_2 u_3 H locs h_4 hP hD hS
            have hP : va_P g.1 vwCl [(md 0, .inr (4, [.int (xt), .int (nI mi), .int (nI mo), .int (nI mw), .ref (md 1), .ref (md 2), .ref (md 3), .int (nI ni), .int (nI no), .ref (md 4), .ref (md 5), .ref (md 6), .int (nI ns), .ref (md 7), .ref (md 8), .int (nI nb), .int (nI wd), .ref (md 9), .long (tp), .long (bl), .long (wt), .long (wb)])), (md 1, aI g 48 lo), (md 2, aI g 48 hi), (md 3, aZ g 12 tr)] H := hP.sub [3, 0, 1, 2] rfl
            have hD : va_D A [(md 0, .inr (4, [.int (xt), .int (nI mi), .int (nI mo), .int (nI mw), .ref (md 1), .ref (md 2), .ref (md 3), .int (nI ni), .int (nI no), .ref (md 4), .ref (md 5), .ref (md 6), .int (nI ns), .ref (md 7), .ref (md 8), .int (nI nb), .int (nI wd), .ref (md 9), .long (tp), .long (bl), .long (wt), .long (wb)])), (md 1, aI g 48 lo), (md 2, aI g 48 hi), (md 3, aZ g 12 tr)] := hD.sub [3, 0, 1, 2] rfl rfl
            have h_4 : r_2 = nI (mi + mo) := h_4
            subst h_4
            refine lv_icmp_ge (tgt := 68) hx hb dX4_missingThere_19 (by decide) (fun c_5 => ?_) (fun c_5 => ?_)
            · skip
              have c_5 := (nI_leI (by omega) (by omega)).mp c_5
              have hv2 : msO lo hi tr (mi + mo) 0 mw = q + msO lo hi tr (mi + mo) (w + 1) (mw - (w + 1)) := by rw [hI, show mi + mo - k = 0 by omega, msI, Nat.zero_add]
              refine lv_iinc (v := nI (w + 1)) (lv' := [(2, .int (nI (w + 1))), (0, .ref (md 0)), (1, .int (nI q)), (3, .int (nI k))]) hx hb dX4_missingThere_68 hl (k := 2) rfl (nI_inc1 w) (by decide) rfl (fun ls hl => ?_)
              refine lv_goto (tgt := 4) hx hb dX4_missingThere_71 (by decide) ?_
              exact ih_4 (w + 1) q (by omega) (by omega) hv2 _ _ hP hD hS ls (lv_sub hl [1, 2, 0] rfl)
            · skip
              have c_5 := mt (nI_leI (by omega) (by omega)).mpr c_5
              refine lv_aload_n hx hb dX4_missingThere_22 rfl (lv_at hl 0 rfl) ?_
              refine k_get hx hb hts hown hK hP iw_X4_missingThere_X4 rfl 0 6 fm_X4_missingThere_23 (by decide) rfl rfl dX4_missingThere_23 ?_
              refine lv_iload_n hx hb dX4_missingThere_26 rfl (lv_at hl 2 rfl) ?_
              refine k_zald hx hb hK hP 3 rfl (by omega) (by omega) dX4_missingThere_27 ?_
              refine lv_if_eq (tgt := 68) hx hb dX4_missingThere_28 (by decide) (fun c_6 => ?_) (fun c_6 => ?_)
              · skip
                have hv2 : msO lo hi tr (mi + mo) 0 mw = q + msO lo hi tr (mi + mo) (w + 1) (mw - (w + 1)) := by rw [hI, msI_z lo hi tr w c_6, Nat.zero_add]
                refine lv_iinc (v := nI (w + 1)) (lv' := [(2, .int (nI (w + 1))), (0, .ref (md 0)), (1, .int (nI q)), (3, .int (nI k))]) hx hb dX4_missingThere_68 hl (k := 2) rfl (nI_inc1 w) (by decide) rfl (fun ls hl => ?_)
                refine lv_goto (tgt := 4) hx hb dX4_missingThere_71 (by decide) ?_
                exact ih_4 (w + 1) q (by omega) (by omega) hv2 _ _ hP hD hS ls (lv_sub hl [1, 2, 0] rfl)
              · skip
                have h1 := c_6
                refine lv_iload_n hx hb dX4_missingThere_31 rfl (lv_at hl 1 rfl) ?_
                refine lv_aload_n hx hb dX4_missingThere_32 rfl (lv_at hl 0 rfl) ?_
                refine k_get hx hb hts hown hK hP iw_X4_missingThere_X4 rfl 0 4 fm_X4_missingThere_16 (by decide) rfl rfl dX4_missingThere_33 ?_
                refine lv_iconst (v := nI 4) hx hb dX4_missingThere_36 (by decide) ?_
                refine lv_iload_n hx hb dX4_missingThere_37 rfl (lv_at hl 2 rfl) ?_
                refine lv_imul hx hb dX4_missingThere_38 ?_
                refine k_ei (y := nI (w * 4)) ((pk_mul _ _).trans (congrArg nI (Nat.mul_comm _ _))) ?_
                refine lv_iload_n hx hb dX4_missingThere_39 rfl (lv_at hl 3 rfl) ?_
                refine lv_iadd hx hb dX4_missingThere_40 ?_
                refine k_ei (y := nI (w * 4 + k)) (nI_add _ _) ?_
                refine k_iald hx hb hK hP 1 rfl (by omega) (by omega) dX4_missingThere_41 ?_
                refine lv_aload_n hx hb dX4_missingThere_42 rfl (lv_at hl 0 rfl) ?_
                refine k_get hx hb hts hown hK hP iw_X4_missingThere_X4 rfl 0 5 fm_X4_missingThere_20 (by decide) rfl rfl dX4_missingThere_43 ?_
                refine lv_iconst (v := nI 4) hx hb dX4_missingThere_46 (by decide) ?_
                refine lv_iload_n hx hb dX4_missingThere_47 rfl (lv_at hl 2 rfl) ?_
                refine lv_imul hx hb dX4_missingThere_48 ?_
                refine k_ei (y := nI (w * 4)) ((pk_mul _ _).trans (congrArg nI (Nat.mul_comm _ _))) ?_
                refine lv_iload_n hx hb dX4_missingThere_49 rfl (lv_at hl 3 rfl) ?_
                refine lv_iadd hx hb dX4_missingThere_50 ?_
                refine k_ei (y := nI (w * 4 + k)) (nI_add _ _) ?_
                refine k_iald hx hb hK hP 2 rfl (by omega) (by omega) dX4_missingThere_51 ?_
                refine lv_icmp_ge (tgt := 59) hx hb dX4_missingThere_52 (by decide) (fun c_7 => ?_) (fun c_7 => ?_)
                · skip
                  have hI2 : msO lo hi tr (mi + mo) 0 mw = q + 0 + (msI lo hi tr w (k + 1) (mi + mo - (k + 1)) + msO lo hi tr (mi + mo) (w + 1) (mw - (w + 1))) := by rw [hI, show mi + mo - k = (mi + mo - (k + 1)) + 1 by omega, msI, if_neg (fun z => by have z := z.2; rw [i32_lt] at z; rw [i32_le] at c_7; omega), Nat.zero_add]; rfl
                  refine lv_iconst (v := nI 0) hx hb dX4_missingThere_59 (by decide) ?_
                  refine lv_iadd hx hb dX4_missingThere_60 ?_
                  refine k_ei (y := nI (q + 0)) (nI_add _ _) ?_
                  refine lv_istore_n (lv' := [(1, .int (nI (q + 0))), (0, .ref (md 0)), (2, .int (nI w)), (3, .int (nI k))]) hx hb dX4_missingThere_61 rfl hl (by decide) rfl (fun ls hl => ?_)
                  refine lv_iinc (v := nI (k + 1)) (lv' := [(3, .int (nI (k + 1))), (1, .int (nI (q + 0))), (0, .ref (md 0)), (2, .int (nI w))]) hx hb dX4_missingThere_62 hl (k := 3) rfl (nI_inc1 k) (by decide) rfl (fun ls hl => ?_)
                  refine lv_goto (tgt := 14) hx hb dX4_missingThere_65 (by decide) ?_
                  exact ih_14 (k + 1) (q + 0) (by omega) (by omega) hI2 _ _ hP hD hS ls (lv_sub hl [2, 1, 3, 0] rfl)
                · skip
                  have hI2 : msO lo hi tr (mi + mo) 0 mw = q + 1 + (msI lo hi tr w (k + 1) (mi + mo - (k + 1)) + msO lo hi tr (mi + mo) (w + 1) (mw - (w + 1))) := by rw [hI, show mi + mo - k = (mi + mo - (k + 1)) + 1 by omega, msI, if_pos ⟨h1, by rw [i32_lt]; rw [i32_le] at c_7; omega⟩]; omega
                  refine lv_iconst (v := nI 1) hx hb dX4_missingThere_55 (by decide) ?_
                  refine lv_goto (tgt := 60) hx hb dX4_missingThere_56 (by decide) ?_
                  refine lv_iadd hx hb dX4_missingThere_60 ?_
                  refine k_ei (y := nI (q + 1)) (nI_add _ _) ?_
                  refine lv_istore_n (lv' := [(1, .int (nI (q + 1))), (0, .ref (md 0)), (2, .int (nI w)), (3, .int (nI k))]) hx hb dX4_missingThere_61 rfl hl (by decide) rfl (fun ls hl => ?_)
                  refine lv_iinc (v := nI (k + 1)) (lv' := [(3, .int (nI (k + 1))), (1, .int (nI (q + 1))), (0, .ref (md 0)), (2, .int (nI w))]) hx hb dX4_missingThere_62 hl (k := 3) rfl (nI_inc1 k) (by decide) rfl (fun ls hl => ?_)
                  refine lv_goto (tgt := 14) hx hb dX4_missingThere_65 (by decide) ?_
                  exact ih_14 (k + 1) (q + 1) (by omega) (by omega) hI2 _ _ hP hD hS ls (lv_sub hl [2, 1, 3, 0] rfl)
        exact lp_14 (mi + mo - 0 + 1) 0 q (by omega) (by omega) (by rw [hv, show mw - w = (mw - (w + 1)) + 1 by omega]; rfl) _ _ hP hD hS ls (lv_sub hl [1, 2, 3, 0] rfl)
  exact lp_4 (mw - 0 + 1) 0 0 (by omega) (by omega) (by rw [Nat.zero_add]; rfl) _ _ hP hD hS ls (lv_sub hl [2, 1, 0] rfl)
theorem iw_X4_count_X4 : ∀ w ∈ wsX40, w ∈ wsX4_count := fun w h => List.mem_cons_of_mem _ (List.mem_append_right _ h)
theorem fm_X4_count_46 : Cond.fieldLink RX4 46 "EdgeBenchModel" "thrown" "I" ∈ wsX4_count := List.mem_of_getElem? (i := 1) rfl
theorem fm_X4_count_9 : Cond.fieldLink RX4 9 "EdgeBenchModel" "ins" "I" ∈ wsX4_count := List.mem_of_getElem? (i := 2) rfl
theorem fm_X4_count_13 : Cond.fieldLink RX4 13 "EdgeBenchModel" "outs" "I" ∈ wsX4_count := List.mem_of_getElem? (i := 3) rfl
theorem fm_X4_count_49 : Cond.fieldLink RX4 49 "EdgeBenchModel" "works" "I" ∈ wsX4_count := List.mem_of_getElem? (i := 4) rfl
theorem fm_X4_count_23 : Cond.fieldLink RX4 23 "EdgeBenchModel" "there" "[Z" ∈ wsX4_count := List.mem_of_getElem? (i := 5) rfl
theorem hdn_X4_missingThere : yX4_missingThere.cls ≠ "java/lang/invoke/MethodHandle" ∧ yX4_missingThere.cls ≠ "java/lang/invoke/VarHandle" ∧ (parseMethodDescriptor yX4_missingThere.desc).map (fun d => d.parameters.length) = some 0 := by decide +kernel
theorem cw_X4_count_170_1_20 {R : Room} {s : State} {args : Array Value} (hts : ∀ w ∈ wsX4_count, w.before args s = true) (hN : nsW s) (hR : 1 + 1 ≤ R.frames ∧ 8 + (4 + 11) + 20 ≤ R.locals) : CallW R s args RX4 RX4 170 yX4_missingThere cX4_missingThere 4 (some .int) wsX4_missingThere { frames := 1, cells := 0, slots := 0, locals := 20 } 0 0 0 := cwV 0 hts gX4_count_X4_missingThere rfl rfl rfl ⟨rfl, hdn_X4_missingThere⟩ hR
set_option maxHeartbeats 20000000 in
set_option maxRecDepth 100000 in
theorem c_X4_count (l : Launch) (g : Gt) (md : Nat → Nat) (x : MS) (wh : Int32) (hmb : mBen x) : CI l yX4_count wsX4_count { frames := 2, cells := 0, slots := 0, locals := 43 } g [.ref (md 0), .int (wh)] [(md 0, .inr (4, [.int (gXt x), .int (nI (gMi x)), .int (nI (gMo x)), .int (nI (gMw x)), .ref (md 1), .ref (md 2), .ref (md 3), .int (nI (gNi x)), .int (nI (gNo x)), .ref (md 4), .ref (md 5), .ref (md 6), .int (nI (gNs x)), .ref (md 7), .ref (md 8), .int (nI (gNb x)), .int (nI (gWd x)), .ref (md 9), .long (gTp x), .long (gBl x), .long (gWt x), .long (gWb x)])), (md 1, aI g 48 (gLo x)), (md 2, aI g 48 (gHi x)), (md 3, aZ g 12 (gTr x)), (md 4, aI g 48 (gNu x)), (md 5, aZ g 12 (gAm x)), (md 6, aJ g 13000 (gSd x)), (md 7, aJ g 85 (gBd x)), (md 8, aJ g 5 (gWy x)), (md 9, aI g 5 (fun j => nI ((gCh x) j)))] (fun zr (zu : MS) => mKeep x zu ∧ zr = cuM x wh) (fun (zu : MS) => [(md 0, .inr (4, [.int (gXt zu), .int (nI (gMi zu)), .int (nI (gMo zu)), .int (nI (gMw zu)), .ref (md 1), .ref (md 2), .ref (md 3), .int (nI (gNi zu)), .int (nI (gNo zu)), .ref (md 4), .ref (md 5), .ref (md 6), .int (nI (gNs zu)), .ref (md 7), .ref (md 8), .int (nI (gNb zu)), .int (nI (gWd zu)), .ref (md 9), .long (gTp zu), .long (gBl zu), .long (gWt zu), .long (gWb zu)])), (md 1, aI g 48 (gLo zu)), (md 2, aI g 48 (gHi zu)), (md 3, aZ g 12 (gTr zu)), (md 4, aI g 48 (gNu zu)), (md 5, aZ g 12 (gAm zu)), (md 6, aJ g 13000 (gSd zu)), (md 7, aJ g 85 (gBd zu)), (md 8, aJ g 5 (gWy zu)), (md 9, aI g 5 (fun j => nI ((gCh zu) j)))]) 0 0 := by
  refine ent_i (cc := cX4_count) (maxL := 4) (by decide) rfl (Nat.le_of_ble_eq_true rfl) ?_
  intro p e s m below meth c A args Q hE ret ls hl
  obtain ⟨hx, hb, hml, hown, hts, hnm, hA, hP, hD, hK, hN⟩ := hE
  have hS : va_S A s.heap s.heap [] := va_S.rf
  have hl : lv_has ls 4 [(0, .ref (md 0)), (1, .int (wh))] := hl
  have hP : va_P g.1 vwCl [(md 0, .inr (4, [.int (gXt x), .int (nI (gMi x)), .int (nI (gMo x)), .int (nI (gMw x)), .ref (md 1), .ref (md 2), .ref (md 3), .int (nI (gNi x)), .int (nI (gNo x)), .ref (md 4), .ref (md 5), .ref (md 6), .int (nI (gNs x)), .ref (md 7), .ref (md 8), .int (nI (gNb x)), .int (nI (gWd x)), .ref (md 9), .long (gTp x), .long (gBl x), .long (gWt x), .long (gWb x)])), (md 1, aI g 48 (gLo x)), (md 2, aI g 48 (gHi x)), (md 3, aZ g 12 (gTr x)), (md 4, aI g 48 (gNu x)), (md 5, aZ g 12 (gAm x)), (md 6, aJ g 13000 (gSd x)), (md 7, aJ g 85 (gBd x)), (md 8, aJ g 5 (gWy x)), (md 9, aI g 5 (fun j => nI ((gCh x) j)))] s.heap := hP
  obtain ⟨⟨hmi1, hmi⟩, ⟨hmo1, hmo⟩, hmw, htr⟩ := id hmb
  refine lv_aload_n hx hb dX4_count_0 rfl (lv_at hl 0 rfl) ?_
  refine lv_iconst (v := nI 0) hx hb dX4_count_1 (by decide) ?_
  refine k_put hx hb hts hown hK hP hD hS iw_X4_count_X4 rfl tyX4 tyX4_ok nmX4 0 0 fm_X4_count_46 (by decide) rfl rfl rfl rfl rfl (Nat.le_of_ble_eq_true rfl) dX4_count_2 (fun H locs hP hD hS => ?_)
  have hP : va_P g.1 vwCl [(md 0, .inr (4, [.int (nI 0), .int (nI (gMi x)), .int (nI (gMo x)), .int (nI (gMw x)), .ref (md 1), .ref (md 2), .ref (md 3), .int (nI (gNi x)), .int (nI (gNo x)), .ref (md 4), .ref (md 5), .ref (md 6), .int (nI (gNs x)), .ref (md 7), .ref (md 8), .int (nI (gNb x)), .int (nI (gWd x)), .ref (md 9), .long (gTp x), .long (gBl x), .long (gWt x), .long (gWb x)])), (md 1, aI g 48 (gLo x)), (md 2, aI g 48 (gHi x)), (md 3, aZ g 12 (gTr x)), (md 4, aI g 48 (gNu x)), (md 5, aZ g 12 (gAm x)), (md 6, aJ g 13000 (gSd x)), (md 7, aJ g 85 (gBd x)), (md 8, aJ g 5 (gWy x)), (md 9, aI g 5 (fun j => nI ((gCh x) j)))] H := hP
  have hD : va_D A [(md 0, .inr (4, [.int (nI 0), .int (nI (gMi x)), .int (nI (gMo x)), .int (nI (gMw x)), .ref (md 1), .ref (md 2), .ref (md 3), .int (nI (gNi x)), .int (nI (gNo x)), .ref (md 4), .ref (md 5), .ref (md 6), .int (nI (gNs x)), .ref (md 7), .ref (md 8), .int (nI (gNb x)), .int (nI (gWd x)), .ref (md 9), .long (gTp x), .long (gBl x), .long (gWt x), .long (gWb x)])), (md 1, aI g 48 (gLo x)), (md 2, aI g 48 (gHi x)), (md 3, aZ g 12 (gTr x)), (md 4, aI g 48 (gNu x)), (md 5, aZ g 12 (gAm x)), (md 6, aJ g 13000 (gSd x)), (md 7, aJ g 85 (gBd x)), (md 8, aJ g 5 (gWy x)), (md 9, aI g 5 (fun j => nI ((gCh x) j)))] := hD
  refine lv_iload_n hx hb dX4_count_5 rfl (lv_at hl 1 rfl) ?_
  rcases sw_4 (x := wh) with hsw | hsw | hsw | hsw | hsw | hsw
  · skip
    refine lv_tableIn (tgt := 40) hx hb dX4_count_6 (by rw [hsw]; decide) (by rw [hsw]; decide) (by rw [hsw]; rfl) (by decide) ?_
    have hres : cuM x wh = nI (gMi x) := by rw [hsw]; rfl
    refine lv_aload_n hx hb dX4_count_40 rfl (lv_at hl 0 rfl) ?_
    refine k_get hx hb hts hown hK hP iw_X4_count_X4 rfl 0 1 fm_X4_count_9 (by decide) rfl rfl dX4_count_41 ?_
    exact ret dX4_count_44 ((nI 0, gMi x, gMo x, gMw x, gLo x, gHi x, gTr x, gNi x, gNo x, gNu x, gAm x, gSd x, gNs x, gBd x, gWy x, gNb x, gWd x, (gCh x), gTp x, gBl x, gWt x, gWb x)) (⟨⟨rfl, rfl, rfl, rfl, rfl, rfl⟩, hres.symm⟩) hP hD hS
  · skip
    refine lv_tableIn (tgt := 45) hx hb dX4_count_6 (by rw [hsw]; decide) (by rw [hsw]; decide) (by rw [hsw]; rfl) (by decide) ?_
    have hres : cuM x wh = nI (gMo x) := by rw [hsw]; rfl
    refine lv_aload_n hx hb dX4_count_45 rfl (lv_at hl 0 rfl) ?_
    refine k_get hx hb hts hown hK hP iw_X4_count_X4 rfl 0 2 fm_X4_count_13 (by decide) rfl rfl dX4_count_46 ?_
    exact ret dX4_count_49 ((nI 0, gMi x, gMo x, gMw x, gLo x, gHi x, gTr x, gNi x, gNo x, gNu x, gAm x, gSd x, gNs x, gBd x, gWy x, gNb x, gWd x, (gCh x), gTp x, gBl x, gWt x, gWb x)) (⟨⟨rfl, rfl, rfl, rfl, rfl, rfl⟩, hres.symm⟩) hP hD hS
  · skip
    refine lv_tableIn (tgt := 50) hx hb dX4_count_6 (by rw [hsw]; decide) (by rw [hsw]; decide) (by rw [hsw]; rfl) (by decide) ?_
    have hres : cuM x wh = nI (gMw x) := by rw [hsw]; rfl
    refine lv_aload_n hx hb dX4_count_50 rfl (lv_at hl 0 rfl) ?_
    refine k_get hx hb hts hown hK hP iw_X4_count_X4 rfl 0 3 fm_X4_count_49 (by decide) rfl rfl dX4_count_51 ?_
    exact ret dX4_count_54 ((nI 0, gMi x, gMo x, gMw x, gLo x, gHi x, gTr x, gNi x, gNo x, gNu x, gAm x, gSd x, gNs x, gBd x, gWy x, gNb x, gWd x, (gCh x), gTp x, gBl x, gWt x, gWb x)) (⟨⟨rfl, rfl, rfl, rfl, rfl, rfl⟩, hres.symm⟩) hP hD hS
  · skip
    refine lv_tableIn (tgt := 55) hx hb dX4_count_6 (by rw [hsw]; decide) (by rw [hsw]; decide) (by rw [hsw]; rfl) (by decide) ?_
    have hres : cuM x wh = nI (cntT (gTr x) 0 (gMw x)) := by rw [hsw]; rfl
    refine lv_iconst (v := nI 0) hx hb dX4_count_55 (by decide) ?_
    refine lv_istore_n (lv' := [(2, .int (nI 0)), (0, .ref (md 0)), (1, .int (wh))]) hx hb dX4_count_56 rfl hl (by decide) rfl (fun ls hl => ?_)
    refine lv_iconst (v := nI 0) hx hb dX4_count_57 (by decide) ?_
    refine lv_istore_n (lv' := [(3, .int (nI 0)), (2, .int (nI 0)), (0, .ref (md 0)), (1, .int (wh))]) hx hb dX4_count_58 rfl hl (by decide) rfl (fun ls hl => ?_)
    have lp_59 : ∀ (n : Nat) (k : Nat) (q : Nat), gMw x - k < n → k ≤ gMw x → cntT (gTr x) 0 (gMw x) = q + cntT (gTr x) k (gMw x - k) → ∀ (H : Heap) (locs : List Loc), va_P g.1 vwCl [(md 0, .inr (4, [.int (nI 0), .int (nI (gMi x)), .int (nI (gMo x)), .int (nI (gMw x)), .ref (md 1), .ref (md 2), .ref (md 3), .int (nI (gNi x)), .int (nI (gNo x)), .ref (md 4), .ref (md 5), .ref (md 6), .int (nI (gNs x)), .ref (md 7), .ref (md 8), .int (nI (gNb x)), .int (nI (gWd x)), .ref (md 9), .long (gTp x), .long (gBl x), .long (gWt x), .long (gWb x)])), (md 1, aI g 48 (gLo x)), (md 2, aI g 48 (gHi x)), (md 3, aZ g 12 (gTr x)), (md 4, aI g 48 (gNu x)), (md 5, aZ g 12 (gAm x)), (md 6, aJ g 13000 (gSd x)), (md 7, aJ g 85 (gBd x)), (md 8, aJ g 5 (gWy x)), (md 9, aI g 5 (fun j => nI ((gCh x) j)))] H → va_D A [(md 0, .inr (4, [.int (nI 0), .int (nI (gMi x)), .int (nI (gMo x)), .int (nI (gMw x)), .ref (md 1), .ref (md 2), .ref (md 3), .int (nI (gNi x)), .int (nI (gNo x)), .ref (md 4), .ref (md 5), .ref (md 6), .int (nI (gNs x)), .ref (md 7), .ref (md 8), .int (nI (gNb x)), .int (nI (gWd x)), .ref (md 9), .long (gTp x), .long (gBl x), .long (gWt x), .long (gWb x)])), (md 1, aI g 48 (gLo x)), (md 2, aI g 48 (gHi x)), (md 3, aZ g 12 (gTr x)), (md 4, aI g 48 (gNu x)), (md 5, aZ g 12 (gAm x)), (md 6, aJ g 13000 (gSd x)), (md 7, aJ g 85 (gBd x)), (md 8, aJ g 5 (gWy x)), (md 9, aI g 5 (fun j => nI ((gCh x) j)))] → va_S A s.heap H locs → ∀ ls : Array Slot, lv_has ls 4 [(0, .ref (md 0)), (1, .int (wh)), (2, .int (nI q)), (3, .int (nI k))] → W p l e { frames := 2, cells := 0, slots := 0, locals := 43 } s m args below meth c H locs 0 0 Q (F0 m 59 ls []) := by
      intro n
      induction n with
      | zero =>
        intro k q hms
        omega
      | succ n ih_59 =>
        intro k q hms_59 hk hv H locs hP hD hS ls hl
        refine lv_iload_n hx hb dX4_count_59 rfl (lv_at hl 3 rfl) ?_
        refine lv_aload_n hx hb dX4_count_60 rfl (lv_at hl 0 rfl) ?_
        refine k_get hx hb hts hown hK hP iw_X4_count_X4 rfl 0 3 fm_X4_count_49 (by decide) rfl rfl dX4_count_61 ?_
        refine lv_icmp_ge (tgt := 90) hx hb dX4_count_64 (by decide) (fun c_1 => ?_) (fun c_1 => ?_)
        · skip
          have c_1 := (nI_leI (by omega) (by omega)).mp c_1
          have hq : cntT (gTr x) 0 (gMw x) = q := by rw [hv, show gMw x - k = 0 by omega]; rfl
          refine lv_iload_n hx hb dX4_count_90 rfl (lv_at hl 2 rfl) ?_
          exact ret dX4_count_91 ((nI 0, gMi x, gMo x, gMw x, gLo x, gHi x, gTr x, gNi x, gNo x, gNu x, gAm x, gSd x, gNs x, gBd x, gWy x, gNb x, gWd x, (gCh x), gTp x, gBl x, gWt x, gWb x)) (⟨⟨rfl, rfl, rfl, rfl, rfl, rfl⟩, by rw [hres, hq]⟩) hP hD hS
        · skip
          have c_1 := mt (nI_leI (by omega) (by omega)).mpr c_1
          refine lv_iload_n hx hb dX4_count_67 rfl (lv_at hl 2 rfl) ?_
          refine lv_aload_n hx hb dX4_count_68 rfl (lv_at hl 0 rfl) ?_
          refine k_get hx hb hts hown hK hP iw_X4_count_X4 rfl 0 6 fm_X4_count_23 (by decide) rfl rfl dX4_count_69 ?_
          refine lv_iload_n hx hb dX4_count_72 rfl (lv_at hl 3 rfl) ?_
          refine k_zald hx hb hK hP 3 rfl (by omega) (by omega) dX4_count_73 ?_
          refine lv_if_eq (tgt := 81) hx hb dX4_count_74 (by decide) (fun c_2 => ?_) (fun c_2 => ?_)
          · skip
            have hv2 : cntT (gTr x) 0 (gMw x) = q + 0 + cntT (gTr x) (k + 1) (gMw x - (k + 1)) := by rw [hv, show gMw x - k = (gMw x - (k + 1)) + 1 by omega, cntT, if_pos c_2, Nat.zero_add]; rfl
            refine lv_iconst (v := nI 0) hx hb dX4_count_81 (by decide) ?_
            refine lv_iadd hx hb dX4_count_82 ?_
            refine k_ei (y := nI (q + 0)) (nI_add _ _) ?_
            refine lv_istore_n (lv' := [(2, .int (nI (q + 0))), (0, .ref (md 0)), (1, .int (wh)), (3, .int (nI k))]) hx hb dX4_count_83 rfl hl (by decide) rfl (fun ls hl => ?_)
            refine lv_iinc (v := nI (k + 1)) (lv' := [(3, .int (nI (k + 1))), (2, .int (nI (q + 0))), (0, .ref (md 0)), (1, .int (wh))]) hx hb dX4_count_84 hl (k := 3) rfl (nI_inc1 k) (by decide) rfl (fun ls hl => ?_)
            refine lv_goto (tgt := 59) hx hb dX4_count_87 (by decide) ?_
            exact ih_59 (k + 1) (q + 0) (by omega) (by omega) hv2 _ _ hP hD hS ls (lv_sub hl [2, 3, 1, 0] rfl)
          · skip
            have hv2 : cntT (gTr x) 0 (gMw x) = q + 1 + cntT (gTr x) (k + 1) (gMw x - (k + 1)) := by rw [hv, show gMw x - k = (gMw x - (k + 1)) + 1 by omega, cntT, if_neg c_2, Nat.add_assoc]
            refine lv_iconst (v := nI 1) hx hb dX4_count_77 (by decide) ?_
            refine lv_goto (tgt := 82) hx hb dX4_count_78 (by decide) ?_
            refine lv_iadd hx hb dX4_count_82 ?_
            refine k_ei (y := nI (q + 1)) (nI_add _ _) ?_
            refine lv_istore_n (lv' := [(2, .int (nI (q + 1))), (0, .ref (md 0)), (1, .int (wh)), (3, .int (nI k))]) hx hb dX4_count_83 rfl hl (by decide) rfl (fun ls hl => ?_)
            refine lv_iinc (v := nI (k + 1)) (lv' := [(3, .int (nI (k + 1))), (2, .int (nI (q + 1))), (0, .ref (md 0)), (1, .int (wh))]) hx hb dX4_count_84 hl (k := 3) rfl (nI_inc1 k) (by decide) rfl (fun ls hl => ?_)
            refine lv_goto (tgt := 59) hx hb dX4_count_87 (by decide) ?_
            exact ih_59 (k + 1) (q + 1) (by omega) (by omega) hv2 _ _ hP hD hS ls (lv_sub hl [2, 3, 1, 0] rfl)
    exact lp_59 (gMw x - 0 + 1) 0 0 (by omega) (by omega) (by rw [Nat.zero_add]; rfl) _ _ hP hD hS ls (lv_sub hl [2, 3, 1, 0] rfl)
  · skip
    refine lv_tableIn (tgt := 92) hx hb dX4_count_6 (by rw [hsw]; decide) (by rw [hsw]; decide) (by rw [hsw]; rfl) (by decide) ?_
    have hres : cuM x wh = nI (msO (gLo x) (gHi x) (gTr x) (gMi x + gMo x) 0 (gMw x)) := by rw [hsw]; rfl
    refine lv_aload_n hx hb dX4_count_92 rfl (lv_at hl 0 rfl) ?_
    refine go_i (wc := [(md 0, .inr (4, [.int (nI 0), .int (nI (gMi x)), .int (nI (gMo x)), .int (nI (gMw x)), .ref (md 1), .ref (md 2), .ref (md 3), .int (nI (gNi x)), .int (nI (gNo x)), .ref (md 4), .ref (md 5), .ref (md 6), .int (nI (gNs x)), .ref (md 7), .ref (md 8), .int (nI (gNb x)), .int (nI (gWd x)), .ref (md 9), .long (gTp x), .long (gBl x), .long (gWt x), .long (gWb x)])), (md 1, aI g 48 (gLo x)), (md 2, aI g 48 (gHi x)), (md 3, aZ g 12 (gTr x))]) (wr := [(md 4, aI g 48 (gNu x)), (md 5, aZ g 12 (gAm x)), (md 6, aJ g 13000 (gSd x)), (md 7, aJ g 85 (gBd x)), (md 8, aJ g 5 (gWy x)), (md 9, aI g 5 (fun j => nI ((gCh x) j)))]) hP hD hS hA [0, 1, 2, 3] [4, 5, 6, 7, 8, 9] rfl rfl rfl rfl (by decide) (fun hPc hDc => rn_V (As := []) (rest := []) ⟨hx, hb, hml, hown, hts⟩ ((c_X4_missingThere l g md (nI 0) (gMi x) (gMo x) (gMw x) (gNi x) (gNo x) (gNs x) (gNb x) (gWd x) (gTp x) (gBl x) (gWt x) (gWb x) (gLo x) (gHi x) (gTr x) (by omega) (by omega) (by omega)) _) (cw_X4_count_170_1_20 hts hN ⟨Nat.le_of_ble_eq_true rfl, Nat.le_of_ble_eq_true rfl⟩) hK hN hPc hDc 0 rfl rfl rfl rfl hl.1 (Nat.le_of_ble_eq_true rfl) dX4_count_93 ⟨Nat.le_of_ble_eq_true rfl, Nat.le_of_ble_eq_true rfl⟩) ?_
    intro r_3 u_4 H locs h_5 hP hD hS
    have hP : va_P g.1 vwCl [(md 0, .inr (4, [.int (nI 0), .int (nI (gMi x)), .int (nI (gMo x)), .int (nI (gMw x)), .ref (md 1), .ref (md 2), .ref (md 3), .int (nI (gNi x)), .int (nI (gNo x)), .ref (md 4), .ref (md 5), .ref (md 6), .int (nI (gNs x)), .ref (md 7), .ref (md 8), .int (nI (gNb x)), .int (nI (gWd x)), .ref (md 9), .long (gTp x), .long (gBl x), .long (gWt x), .long (gWb x)])), (md 1, aI g 48 (gLo x)), (md 2, aI g 48 (gHi x)), (md 3, aZ g 12 (gTr x)), (md 4, aI g 48 (gNu x)), (md 5, aZ g 12 (gAm x)), (md 6, aJ g 13000 (gSd x)), (md 7, aJ g 85 (gBd x)), (md 8, aJ g 5 (gWy x)), (md 9, aI g 5 (fun j => nI ((gCh x) j)))] H := hP.sub [6, 7, 8, 9, 0, 1, 2, 3, 4, 5] rfl
    have hD : va_D A [(md 0, .inr (4, [.int (nI 0), .int (nI (gMi x)), .int (nI (gMo x)), .int (nI (gMw x)), .ref (md 1), .ref (md 2), .ref (md 3), .int (nI (gNi x)), .int (nI (gNo x)), .ref (md 4), .ref (md 5), .ref (md 6), .int (nI (gNs x)), .ref (md 7), .ref (md 8), .int (nI (gNb x)), .int (nI (gWd x)), .ref (md 9), .long (gTp x), .long (gBl x), .long (gWt x), .long (gWb x)])), (md 1, aI g 48 (gLo x)), (md 2, aI g 48 (gHi x)), (md 3, aZ g 12 (gTr x)), (md 4, aI g 48 (gNu x)), (md 5, aZ g 12 (gAm x)), (md 6, aJ g 13000 (gSd x)), (md 7, aJ g 85 (gBd x)), (md 8, aJ g 5 (gWy x)), (md 9, aI g 5 (fun j => nI ((gCh x) j)))] := hD.sub [6, 7, 8, 9, 0, 1, 2, 3, 4, 5] rfl rfl
    have h_5 : r_3 = nI (msO (gLo x) (gHi x) (gTr x) ((gMi x) + (gMo x)) 0 (gMw x)) := h_5
    subst h_5
    exact ret dX4_count_96 ((nI 0, gMi x, gMo x, gMw x, gLo x, gHi x, gTr x, gNi x, gNo x, gNu x, gAm x, gSd x, gNs x, gBd x, gWy x, gNb x, gWd x, (gCh x), gTp x, gBl x, gWt x, gWb x)) (⟨⟨rfl, rfl, rfl, rfl, rfl, rfl⟩, hres.symm⟩) hP hD hS
  · skip
    refine lv_tableOut (tgt := 97) hx hb dX4_count_6 (by omega) (by decide) ?_
    have hres : cuM x wh = -1 := by
      unfold cuM
      rw [if_neg, if_neg, if_neg, if_neg, if_neg] <;> (rw [i32_eN (by decide)]; omega)
    refine lv_iconst (v := -1) hx hb dX4_count_97 (by decide) ?_
    exact ret dX4_count_98 ((nI 0, gMi x, gMo x, gMw x, gLo x, gHi x, gTr x, gNi x, gNo x, gNu x, gAm x, gSd x, gNs x, gBd x, gWy x, gNb x, gWd x, (gCh x), gTp x, gBl x, gWt x, gWb x)) (⟨⟨rfl, rfl, rfl, rfl, rfl, rfl⟩, hres.symm⟩) hP hD hS
