/-! THE LAW: from its entry -/
theorem arr_of {s : State} {args : Array Value} {ty : FieldType} (h : (Cond.arrayClass ty).before args s = true) : ∃ cA : ClassId, ArrOfT s cA ty ∧ s.vm.findClass ("[" ++ ty.toString) = some cA := by
  obtain ⟨cA, kA, comp, h1, h2, h3⟩ := Cond.arrayClass_spec h
  exact ⟨cA, fun n z => ⟨fun k h => (by cases h), kA, h2, comp, h3⟩, h1⟩
theorem arr_obj {s : State} {C : String} (h : va_AO C s) : ∃ cA : ClassId, ArrOfT s cA (.object C) ∧ va_RA s cA (.object C) := by
  obtain ⟨comp, c, k, h1, h2, h3, h4, h5⟩ := Cond.arrayOver_spec h
  exact ⟨c, fun N z => ⟨(fun k h => by cases h), k, h3, comp, h4⟩, k, comp, h3, h4, h1, h5⟩
theorem pX_blind (g : Gt) (ws : va_W) (sz : Nat) (av : List Value) : FrameBlind (va_Pc av (fun U => pW g ws sz U ∧ va_AO RX0 U)) := fun a U gg mk q => ⟨q.1, ⟨q.2.1.1, q.2.1.2.1, kW.same (U := U.calling gg mk a) rfl q.2.1.2.2.1, q.2.1.2.2.2⟩, va_AO.moved (u := U) (U := U.calling gg mk a) (Vm.Alike.refl U.vm) q.2.2⟩
theorem rn_IX {p : Program} {l : Launch} {e : Env} {R : Room} {s : State} {m : MethodId} {args : Array Value} {below : List Frame} {meth : Method} {c : Code} {H : Heap} {locs : List Loc} {cells slots : Nat} {pc : Nat} {ls : Array Slot} {rest st0 : List Value} {g : Gt} {A : Nat → Prop} {wc : va_W} {mc ms : Nat} {y : MethodName} {bytes cc : ByteArray} {maxL nL n index : Nat} {wy : List Cond} {rm : Room} {Qc : Array Value → State → Outcome → State → Prop} {free : Addr → Prop} {Ts : List Cond} {own : String} {b : Addr} {As : List Value} (S : CallFix p m c cc nL s args Ts own) (hM : Met l y wy rm (va_Pc (.ref b :: As) (fun U => pW g wc H.size U ∧ va_AO RX0 U)) Qc mc ms free) (cw : CallB R s args own index y bytes maxL none wy rm mc ms n ∧ y.name = "<init>" ∧ (Cond.instanceMethod y).before args s = true) (hK : va_K g.1 vwCl (gTy g) s) (hN : nsW s) (hAO : va_AO RX0 s) (hP : va_P g.1 vwCl wc H) (hD : va_D A wc) (hst : st0 = As.reverse ++ .ref b :: rest) (hn : As.length = n) (hsz : ls.size = nL) (hW : (rest.map fun v => v.category).sum ≤ 8) (hdg : decode cc pc = .ok (.invokespecial index, 3)) (hf : cells + mc ≤ R.cells ∧ slots + ms ≤ R.slots) :
    va_Run p l e R s m args below meth c H locs cells slots mc ms (F0 m pc ls st0) rest (Qc (Value.ref b :: As).toArray) free :=
  va_runI S hM cw ⟨pX_blind _ _ _ _, fun U hU hWm => ⟨rfl, ⟨by rw [hU], by rw [hU]; exact hP, kW.warm hWm ⟨hK, hN⟩, hD.weaken (fun _ _ _ _ => trivial)⟩, va_AO.moved hWm.alike hAO⟩⟩ rfl hn hsz hst (lv_room hW) hdg hf
set_option maxHeartbeats 20000000 in
set_option maxRecDepth 100000 in
theorem whole_start {p : Program} {e : Env} {s : State} {m : MethodId} {below : List Frame} {meth : Method} {c : Code} (l : Launch) {b L : Nat} {xs : Nat → Int32} (hL : L ≤ 3072) (C0 : lw_At p s m meth c b L xs) : W p l e room_1 s m #[Value.ref b] below meth c s.heap [] 0 0 (lw_Z below #[Value.ref b] s) (entryFrame m ([Value.ref b] : List Value).toArray 4) := by
  obtain ⟨hx, hb, hr, hml, hown, hts, hX, hbl, hlocks, hgv⟩ := C0
  have hA : ∀ q : Nat, s.heap.size ≤ q → (fun q : Nat => s.heap.size ≤ q) q := fun _ h => h
  obtain ⟨c0, iS0, hKn0⟩ := u_known (C := RX0) (T := TX0) (N := 8) (n := 8) hts iwl_X0 (hts (.instantiable RX0 8) (List.mem_of_getElem? (i := 111) rfl))
  obtain ⟨c1, iS1, hKn1⟩ := u_known (C := RX1) (T := TX1) (N := 2) (n := 2) hts iwl_X1 (hts (.instantiable RX1 2) (List.mem_of_getElem? (i := 261) rfl))
  obtain ⟨c2, iS2, hKn2⟩ := u_known (C := RX2) (T := TX2) (N := 4) (n := 4) hts iwl_X2 (hts (.instantiable RX2 4) (List.mem_of_getElem? (i := 82) rfl))
  obtain ⟨c3, iS3, hKn3⟩ := u_known (C := RX3) (T := TX3) (N := 10) (n := 10) hts iwl_X3 (hts (.instantiable RX3 10) (List.mem_of_getElem? (i := 74) rfl))
  obtain ⟨c4, iS4, hKn4⟩ := u_known (C := RX4) (T := TX4) (N := 22) (n := 22) hts iwl_X4 (hts (.instantiable RX4 22) (List.mem_of_getElem? (i := 456) rfl))
  obtain ⟨dC, dI, hKc⟩ : ∃ (dC : Nat → ClassId) (dI : Nat → Nat → Nat), ∀ (k : Nat) (q : vw_C), vwCl[k]? = some q → u_Kn s q.1 q.2.1 q.2.2 (dC k) (dI k) := by
    refine ⟨fun k => if k = 0 then c0 else if k = 1 then c1 else if k = 2 then c2 else if k = 3 then c3 else c4, fun k => if k = 0 then iS0 else if k = 1 then iS1 else if k = 2 then iS2 else if k = 3 then iS3 else iS4, ?_⟩
    intro k q hq
    match k, hq with
    | 0, hq => cases hq; exact hKn0
    | 1, hq => cases hq; exact hKn1
    | 2, hq => cases hq; exact hKn2
    | 3, hq => cases hq; exact hKn3
    | 4, hq => cases hq; exact hKn4
    | k + 5, hq => simp [vwCl] at hq
  obtain ⟨aI0, hI1, hI2⟩ := arr_of (ty := .int) (hts (.arrayClass .int) (List.mem_of_getElem? (i := 107) rfl))
  obtain ⟨aJ0, hJ1, hJ2⟩ := arr_of (ty := .long) (hts (.arrayClass .long) (List.mem_of_getElem? (i := 143) rfl))
  obtain ⟨aZ0, hZ1, hZ2⟩ := arr_of (ty := .boolean) (hts (.arrayClass .boolean) (List.mem_of_getElem? (i := 108) rfl))
  have hAO : va_AO RX0 s := va_AO.of (hts (.arrayOver (.object RX0)) (List.mem_of_getElem? (i := 110) rfl))
  obtain ⟨aC0, hC1, hC2⟩ := arr_obj hAO
  obtain ⟨g, hg⟩ : ∃ g : Gt, g = ((dC, dI), aI0, aJ0, aZ0, aC0) := ⟨_, rfl⟩
  have hK : va_K g.1 vwCl (gTy g) s := by
    rw [hg]
    refine ⟨hKc, fun k q h => ?_⟩
    match k, h with
    | 0, h => cases h; exact ⟨hI1, hI2⟩
    | 1, h => cases h; exact ⟨hJ1, hJ2⟩
    | 2, h => cases h; exact ⟨hZ1, hZ2⟩
    | 3, h => cases h; exact ⟨hC1, hC2⟩
    | k + 4, h => simp [gTy] at h
  clear hg
  have hN : nsW s := nsW_law hts
  have hown : s.vm.findClass RL = some m.cls := hown
  have C : LC p s m c g b L xs := ⟨hx, hb, hml, hown, hts, hX, hbl, hK, hN⟩
  have hS : va_S (fun q : Nat => s.heap.size ≤ q) s.heap s.heap [] := va_S.rf
  have hP : va_P g.1 vwCl [] s.heap := fun k q h => by simp at h
  have hD : va_D (fun q : Nat => s.heap.size ≤ q) [] := ⟨fun i j p q h => by simp at h, fun k q h => by simp at h⟩
  have hl := lv_entry ([.ref b]) (n := 4) (Nat.le_of_ble_eq_true rfl)
  rw [lg_entry_eq]
  generalize (lg_sl ([.ref b]) ++ List.replicate (4 - (lg_sl ([.ref b])).length) Slot.unset).toArray = ls at hl ⊢
  have hl : lv_has ls 4 [(0, .ref b)] := hl
  refine va_new (ci := 3) (fs := [.int (0), .int (0), .int (0), .null, .null, .null, .null, .null, .null, .null]) (C := RX3) (T := TX3) (N := 10) hx hb hts iwl_X3 tyX3 tyX3_ok hown (hts (.classLink RL 7 RX3) (List.mem_of_getElem? (i := 73) rfl)) (hts (.instantiable RX3 10) (List.mem_of_getElem? (i := 74) rfl)) (hts (.initialized RX3) (List.mem_of_getElem? (i := 65) rfl)) hK hP hD hS hA rfl (by decide) (Nat.le_of_ble_eq_true rfl) (Nat.le_of_ble_eq_true rfl) dL_law_0 (fun q0 H hP hD hS => ?_)
  have hP : va_P g.1 vwCl [(q0, .inr (3, [.int (0), .int (0), .int (0), .null, .null, .null, .null, .null, .null, .null]))] H := hP
  have hD : va_D (fun q : Nat => s.heap.size ≤ q) [(q0, .inr (3, [.int (0), .int (0), .int (0), .null, .null, .null, .null, .null, .null, .null]))] := hD
  refine W.widen (k := 1) (n := 10) (by omega) (by omega) ?_
  refine lv_dup hx hb dL_law_3 rfl ?_
  refine go_v (wc := [(q0, .inr (3, [.int (0), .int (0), .int (0), .null, .null, .null, .null, .null, .null, .null]))]) (wr := []) hP hD hS hA [0] [] rfl rfl rfl rfl (by decide) (fun hPc hDc => rn_IX (As := []) (rest := [.ref q0]) ⟨hx, hb, hml, hown, hts⟩ (c_X3_init l g q0 _) (cwl_X3_init hts) hK hN hAO hPc hDc rfl rfl hl.1 (Nat.le_of_ble_eq_true rfl) dL_law_4 ⟨Nat.le_of_ble_eq_true rfl, Nat.le_of_ble_eq_true rfl⟩) ?_
  intro zu H1 locs1 hz hP1 hD1 hS1
  obtain ⟨ad, cf, u⟩ := zu
  obtain ⟨had, hc0, hc1, hc2, hini⟩ := hz
  have had : ad 0 = q0 := had
  subst had
  have hc0 : cf 0 = some (ad 11) := hc0
  have hc1 : cf 1 = some (ad 15) := hc1
  have hc2 : cf 2 = some (ad 19) := hc2
  have hini : eIni u := hini
  have hP : va_P g.1 vwCl (eCells g ad cf u) H1 := hP1
  have hD : va_D (fun q : Nat => s.heap.size ≤ q) (eCells g ad cf u) := hD1
  have hS := hS1
  refine W.widen (k := 27) (n := 4313) (by omega) (by omega) ?_
  refine lv_astore_n (lv' := [(1, .ref (ad 0)), (0, .ref b)]) hx hb dL_law_7 rfl hl (by decide) rfl (fun ls hl => ?_)
  refine va_new (ci := 4) (fs := [.int (0), .int (0), .int (0), .int (0), .null, .null, .null, .int (0), .int (0), .null, .null, .null, .int (0), .null, .null, .int (0), .int (0), .null, .long (0), .long (0), .long (0), .long (0)]) (C := RX4) (T := TX4) (N := 22) hx hb hts iwl_X4 tyX4 tyX4_ok hown (hts (.classLink RL 10 RX4) (List.mem_of_getElem? (i := 455) rfl)) (hts (.instantiable RX4 22) (List.mem_of_getElem? (i := 456) rfl)) (hts (.initialized RX4) (List.mem_of_getElem? (i := 68) rfl)) hK hP hD hS hA rfl (by decide) (Nat.le_of_ble_eq_true rfl) (Nat.le_of_ble_eq_true rfl) dL_law_8 (fun m0 H hP hD hS => ?_)
  refine W.widen (k := 28) (n := 4335) (by omega) (by omega) ?_
  refine lv_dup hx hb dL_law_11 rfl ?_
  refine go_v (wc := [(m0, .inr (4, [.int (0), .int (0), .int (0), .int (0), .null, .null, .null, .int (0), .int (0), .null, .null, .null, .int (0), .null, .null, .int (0), .int (0), .null, .long (0), .long (0), .long (0), .long (0)]))]) (wr := eCells g ad cf u) hP hD hS hA [27] [0, 1, 2, 3, 4, 5, 6, 7, 8, 9, 10, 11, 12, 13, 14, 15, 16, 17, 18, 19, 20, 21, 22, 23, 24, 25, 26] rfl rfl rfl rfl (by decide) (fun hPc hDc => rn_I (As := []) (rest := [.ref m0]) ⟨hx, hb, hml, hown, hts⟩ (c_X4_init l g m0 _) (cwl_X4_init hts) hK hN hPc hDc rfl rfl hl.1 (Nat.le_of_ble_eq_true rfl) dL_law_12 ⟨Nat.le_of_ble_eq_true rfl, Nat.le_of_ble_eq_true rfl⟩) ?_
  intro zu H2 locs2 hz hP2 hD2 hS2
  obtain ⟨md, x⟩ := zu
  obtain ⟨hmd, hmi⟩ := hz
  have hmd : md 0 = m0 := hmd
  subst hmd
  have hP : va_P g.1 vwCl (eCells g ad cf u ++ mCells g md x) H2 := hP2
  have hD : va_D (fun q : Nat => s.heap.size ≤ q) (eCells g ad cf u ++ mCells g md x) := hD2
  have hS := hS2
  refine W.widen (k := 37 + 3 * 0) (n := 17598 + 6 * 0) (by omega) (by omega) ?_
  refine lv_astore_n (lv' := [(2, .ref (md 0)), (1, .ref (ad 0)), (0, .ref b)]) hx hb dL_law_15 rfl hl (by decide) rfl (fun ls hl => ?_)
  refine lv_iconst (v := nI 0) hx hb dL_law_16 (by decide) ?_
  refine lv_istore_n (lv' := [(3, .int (nI 0)), (2, .ref (md 0)), (1, .ref (ad 0)), (0, .ref b)]) hx hb dL_law_17 rfl hl (by decide) rfl (fun ls hl => ?_)
  exact law_loop l C hr hlocks ad cf md hc0 hc1 hc2 hL (L + 1) 0 0 u x H2 locs2 rfl (Nat.zero_le _) (by omega) (ST_ini hini hmi) hP hD hS ls (lv_sub hl [3, 2, 1, 0] rfl)
