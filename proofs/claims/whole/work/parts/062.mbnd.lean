def bnW (v t : Nat) : Nat := if v = 0 then t else t + 1
theorem bnW_le (v t : Nat) : t ≤ bnW v t ∧ bnW v t ≤ t + 1 := by
  unfold bnW
  split <;> omega
def bnE (v : Nat) : Nat := if v = 1 then 1 else 0
theorem bnE_le (v : Nat) : bnE v ≤ 1 := by
  unfold bnE
  split <;> omega
def bnV (nu : Nat → Int32) (ni w k : Nat) : Int64 := if k < ni then (nu (w * 4 + k)).toInt64 else (-nu (w * 4 + k)).toInt64
def bnI (nu : Nat → Int32) (ni w b k : Nat) : Nat → (Nat → Int64) → Nat → Int64
  | 0, f => f
  | n + 1, f => bnI nu ni w b (k + 1) n (vp_updL f (b * 5 + k) (bnV nu ni w k))
def bnR (nu : Nat → Int32) (ni t wd w b : Nat) (f : Nat → Int64) : Nat → Int64 := if t < wd then vp_updL (bnI nu ni w b 0 t f) (b * 5 + t) (-1) else bnI nu ni w b 0 t f
def bnO (nu am : Nat → Int32) (ni t wd w : Nat) : Nat → (Nat → Int64) × Nat → (Nat → Int64) × Nat
  | 0, q => q
  | n + 1, q => bnO nu am ni t wd (w + 1) n (if am w = 0 then q else (bnR nu ni t wd w q.2 q.1, q.2 + 1))
def bxV (t i k : Nat) : Int64 := if k = i then (if i < t then 1 else -1) else 0
def bxI (t i b k : Nat) : Nat → (Nat → Int64) → Nat → Int64
  | 0, f => f
  | n + 1, f => bxI t i b (k + 1) n (vp_updL f (b * 5 + k) (bxV t i k))
def bxO (t wd i : Nat) : Nat → (Nat → Int64) × Nat → (Nat → Int64) × Nat
  | 0, q => q
  | n + 1, q => bxO t wd (i + 1) n (bxI t i q.2 0 wd q.1, q.2 + 1)
theorem bnO_le (nu am : Nat → Int32) (ni t wd : Nat) : ∀ (n w : Nat) (q : (Nat → Int64) × Nat), (bnO nu am ni t wd w n q).2 ≤ q.2 + n
  | 0, _, _ => Nat.le_refl _
  | n + 1, w, q => by
    rw [bnO]
    by_cases h0 : am w = 0
    · rw [if_pos h0]
      have h := bnO_le nu am ni t wd n (w + 1) q
      omega
    · rw [if_neg h0]
      have h := bnO_le nu am ni t wd n (w + 1) (bnR nu ni t wd w q.2 q.1, q.2 + 1)
      simp only at h
      omega
theorem bxO_eq (t wd : Nat) : ∀ (n i : Nat) (q : (Nat → Int64) × Nat), (bxO t wd i n q).2 = q.2 + n
  | 0, _, _ => rfl
  | n + 1, i, q => by rw [bxO, bxO_eq t wd n (i + 1)]; omega
/-- the bounds of a view: their rows, and how many they are -/
def bnF (nu am : Nat → Int32) (ni no mw v : Nat) (bd : Nat → Int64) : (Nat → Int64) × Nat := bxO (ni + no) (bnW v (ni + no)) 0 (ni + no + bnE v) (bnO nu am ni (ni + no) (bnW v (ni + no)) 0 mw (bd, 0))
theorem bnF_le {nu am : Nat → Int32} {ni no mw v : Nat} {bd : Nat → Int64} (h1 : ni ≤ 2) (h2 : no ≤ 2) (h3 : mw ≤ 12) : (bnF nu am ni no mw v bd).2 ≤ 17 := by
  unfold bnF
  rw [bxO_eq]
  have a := bnO_le nu am ni (ni + no) (bnW v (ni + no)) mw 0 (bd, 0)
  have b := bnE_le v
  simp only at a
  omega
def dtP (bd : Nat → Int64) (ch : Nat → Nat) (row : Nat) (D : Int32 → Int64) (o : Int32) (c : Nat) (q : Int64 × Int32) : Int64 × Int32 :=
  if (o >>> (nI c &&& 31)) &&& nI 1 = nI 1 then q else if bd (ch row * 5 + c) = 0 then (q.1, -q.2) else (q.1 + q.2.toInt64 * bd (ch row * 5 + c) * D (o ||| (nI 1 <<< (nI c &&& 31))), -q.2)
def dtS (bd : Nat → Int64) (ch : Nat → Nat) (row : Nat) (D : Int32 → Int64) (o : Int32) (c : Nat) : Nat → Int64 × Int32 → Int64 × Int32
  | 0, q => q
  | n + 1, q => dtS bd ch row D o (c + 1) n (dtP bd ch row D o c q)
/-- the determinant's recursion, d rows to go -/
def dtF (bd : Nat → Int64) (ch : Nat → Nat) (wd : Nat) : Nat → Nat → Int32 → Int64
  | 0, _, _ => 1
  | d + 1, row, o => (dtS bd ch row (fun z => dtF bd ch wd d (row + 1) z) o 0 wd (0, nI 1)).1
theorem iw_X4_bounds_X4 : ∀ w ∈ wsX40, w ∈ wsX4_bounds := fun w h => List.mem_cons_of_mem _ (List.mem_append_right _ h)
theorem fm_X4_bounds_64 : Cond.fieldLink RX4 64 "EdgeBenchModel" "nIn" "I" ∈ wsX4_bounds := List.mem_of_getElem? (i := 1) rfl
theorem fm_X4_bounds_67 : Cond.fieldLink RX4 67 "EdgeBenchModel" "nOut" "I" ∈ wsX4_bounds := List.mem_of_getElem? (i := 2) rfl
theorem fm_X4_bounds_70 : Cond.fieldLink RX4 70 "EdgeBenchModel" "wide" "I" ∈ wsX4_bounds := List.mem_of_getElem? (i := 3) rfl
theorem fm_X4_bounds_73 : Cond.fieldLink RX4 73 "EdgeBenchModel" "bounds" "I" ∈ wsX4_bounds := List.mem_of_getElem? (i := 4) rfl
theorem fm_X4_bounds_49 : Cond.fieldLink RX4 49 "EdgeBenchModel" "works" "I" ∈ wsX4_bounds := List.mem_of_getElem? (i := 5) rfl
theorem fm_X4_bounds_37 : Cond.fieldLink RX4 37 "EdgeBenchModel" "bound" "[J" ∈ wsX4_bounds := List.mem_of_getElem? (i := 7) rfl
theorem fm_X4_bounds_30 : Cond.fieldLink RX4 30 "EdgeBenchModel" "among" "[Z" ∈ wsX4_bounds := List.mem_of_getElem? (i := 6) rfl
theorem fm_X4_bounds_27 : Cond.fieldLink RX4 27 "EdgeBenchModel" "number" "[I" ∈ wsX4_bounds := List.mem_of_getElem? (i := 8) rfl
set_option maxHeartbeats 20000000 in
set_option maxRecDepth 100000 in
theorem c_X4_bounds (l : Launch) (g : Gt) (md : Nat → Nat) (xt : Int32) (mi : Nat) (mo : Nat) (mw : Nat) (ni : Nat) (no : Nat) (ns : Nat) (nb : Nat) (wd : Nat) (tp : Int64) (bl : Int64) (wt : Int64) (wb : Int64) (nu : Nat → Int32) (am : Nat → Int32) (bd : Nat → Int64) (v : Nat) (hv2 : v ≤ 2) (hni : ni ≤ 2) (hno : no ≤ 2) (hmw : mw ≤ 12) : CV l yX4_bounds wsX4_bounds { frames := 0, cells := 0, slots := 0, locals := 0 } g [.ref (md 0), .int (nI v)] [(md 0, .inr (4, [.int (xt), .int (nI mi), .int (nI mo), .int (nI mw), .ref (md 1), .ref (md 2), .ref (md 3), .int (nI ni), .int (nI no), .ref (md 4), .ref (md 5), .ref (md 6), .int (nI ns), .ref (md 7), .ref (md 8), .int (nI nb), .int (nI wd), .ref (md 9), .long (tp), .long (bl), .long (wt), .long (wb)])), (md 4, aI g 48 nu), (md 5, aZ g 12 am), (md 7, aJ g 85 bd)] (fun (zu : Unit) => True) (fun (zu : Unit) => [(md 0, .inr (4, [.int (xt), .int (nI mi), .int (nI mo), .int (nI mw), .ref (md 1), .ref (md 2), .ref (md 3), .int (nI ni), .int (nI no), .ref (md 4), .ref (md 5), .ref (md 6), .int (nI ns), .ref (md 7), .ref (md 8), .int (nI ((bnF nu am ni no mw v bd).2)), .int (nI (bnW v (ni + no))), .ref (md 9), .long (tp), .long (bl), .long (wt), .long (wb)])), (md 4, aI g 48 nu), (md 5, aZ g 12 am), (md 7, aJ g 85 ((bnF nu am ni no mw v bd).1))]) 0 0 := by
  refine ent_v (cc := cX4_bounds) (maxL := 5) (by decide) rfl (Nat.le_of_ble_eq_true rfl) ?_
  intro p e s m below meth c A args Q hE ret ls hl
  obtain ⟨hx, hb, hml, hown, hts, hnm, hA, hP, hD, hK, hN⟩ := hE
  have hS : va_S A s.heap s.heap [] := va_S.rf
  have hl : lv_has ls 5 [(0, .ref (md 0)), (1, .int (nI v))] := hl
  have hP : va_P g.1 vwCl [(md 0, .inr (4, [.int (xt), .int (nI mi), .int (nI mo), .int (nI mw), .ref (md 1), .ref (md 2), .ref (md 3), .int (nI ni), .int (nI no), .ref (md 4), .ref (md 5), .ref (md 6), .int (nI ns), .ref (md 7), .ref (md 8), .int (nI nb), .int (nI wd), .ref (md 9), .long (tp), .long (bl), .long (wt), .long (wb)])), (md 4, aI g 48 nu), (md 5, aZ g 12 am), (md 7, aJ g 85 bd)] s.heap := hP
  have hWl := bnW_le v (ni + no)
  have hEl := bnE_le v
  refine lv_aload_n hx hb dX4_bounds_0 rfl (lv_at hl 0 rfl) ?_
  refine k_get hx hb hts hown hK hP iw_X4_bounds_X4 rfl 0 7 fm_X4_bounds_64 (by decide) rfl rfl dX4_bounds_1 ?_
  refine lv_aload_n hx hb dX4_bounds_4 rfl (lv_at hl 0 rfl) ?_
  refine k_get hx hb hts hown hK hP iw_X4_bounds_X4 rfl 0 8 fm_X4_bounds_67 (by decide) rfl rfl dX4_bounds_5 ?_
  refine lv_iadd hx hb dX4_bounds_8 ?_
  refine k_ei (y := nI (ni + no)) (nI_add _ _) ?_
  refine lv_istore_n (lv' := [(2, .int (nI (ni + no))), (0, .ref (md 0)), (1, .int (nI v))]) hx hb dX4_bounds_9 rfl hl (by decide) rfl (fun ls hl => ?_)
  refine lv_aload_n hx hb dX4_bounds_10 rfl (lv_at hl 1 rfl) ?_
  refine lv_iload_n hx hb dX4_bounds_11 rfl (lv_at hl 2 rfl) ?_
  have lp_22 : ∀ (wv : Nat), wv = bnW v (ni + no) → ∀ (H : Heap) (locs : List Loc), va_P g.1 vwCl [(md 0, .inr (4, [.int (xt), .int (nI mi), .int (nI mo), .int (nI mw), .ref (md 1), .ref (md 2), .ref (md 3), .int (nI ni), .int (nI no), .ref (md 4), .ref (md 5), .ref (md 6), .int (nI ns), .ref (md 7), .ref (md 8), .int (nI nb), .int (nI wd), .ref (md 9), .long (tp), .long (bl), .long (wt), .long (wb)])), (md 4, aI g 48 nu), (md 5, aZ g 12 am), (md 7, aJ g 85 bd)] H → va_D A [(md 0, .inr (4, [.int (xt), .int (nI mi), .int (nI mo), .int (nI mw), .ref (md 1), .ref (md 2), .ref (md 3), .int (nI ni), .int (nI no), .ref (md 4), .ref (md 5), .ref (md 6), .int (nI ns), .ref (md 7), .ref (md 8), .int (nI nb), .int (nI wd), .ref (md 9), .long (tp), .long (bl), .long (wt), .long (wb)])), (md 4, aI g 48 nu), (md 5, aZ g 12 am), (md 7, aJ g 85 bd)] → va_S A s.heap H locs → ∀ ls : Array Slot, lv_has ls 5 [(0, .ref (md 0)), (1, .int (nI v)), (2, .int (nI (ni + no)))] → W p l e { frames := 0, cells := 0, slots := 0, locals := 0 } s m args below meth c H locs 0 0 Q (F0 m 22 ls [.int (nI wv), .ref (md 0)]) := by
    intro wv hwv H locs hP hD hS ls hl
    subst hwv
    refine k_put hx hb hts hown hK hP hD hS iw_X4_bounds_X4 rfl tyX4 tyX4_ok nmX4 0 16 fm_X4_bounds_70 (by decide) rfl rfl rfl rfl rfl (Nat.le_of_ble_eq_true rfl) dX4_bounds_22 (fun H locs hP hD hS => ?_)
    have hP : va_P g.1 vwCl [(md 0, .inr (4, [.int (xt), .int (nI mi), .int (nI mo), .int (nI mw), .ref (md 1), .ref (md 2), .ref (md 3), .int (nI ni), .int (nI no), .ref (md 4), .ref (md 5), .ref (md 6), .int (nI ns), .ref (md 7), .ref (md 8), .int (nI nb), .int (nI (bnW v (ni + no))), .ref (md 9), .long (tp), .long (bl), .long (wt), .long (wb)])), (md 4, aI g 48 nu), (md 5, aZ g 12 am), (md 7, aJ g 85 bd)] H := hP
    have hD : va_D A [(md 0, .inr (4, [.int (xt), .int (nI mi), .int (nI mo), .int (nI mw), .ref (md 1), .ref (md 2), .ref (md 3), .int (nI ni), .int (nI no), .ref (md 4), .ref (md 5), .ref (md 6), .int (nI ns), .ref (md 7), .ref (md 8), .int (nI nb), .int (nI (bnW v (ni + no))), .ref (md 9), .long (tp), .long (bl), .long (wt), .long (wb)])), (md 4, aI g 48 nu), (md 5, aZ g 12 am), (md 7, aJ g 85 bd)] := hD
    refine lv_aload_n hx hb dX4_bounds_25 rfl (lv_at hl 0 rfl) ?_
    refine lv_iconst (v := nI 0) hx hb dX4_bounds_26 (by decide) ?_
    refine k_put hx hb hts hown hK hP hD hS iw_X4_bounds_X4 rfl tyX4 tyX4_ok nmX4 0 15 fm_X4_bounds_73 (by decide) rfl rfl rfl rfl rfl (Nat.le_of_ble_eq_true rfl) dX4_bounds_27 (fun H locs hP hD hS => ?_)
    have hP : va_P g.1 vwCl [(md 0, .inr (4, [.int (xt), .int (nI mi), .int (nI mo), .int (nI mw), .ref (md 1), .ref (md 2), .ref (md 3), .int (nI ni), .int (nI no), .ref (md 4), .ref (md 5), .ref (md 6), .int (nI ns), .ref (md 7), .ref (md 8), .int (nI 0), .int (nI (bnW v (ni + no))), .ref (md 9), .long (tp), .long (bl), .long (wt), .long (wb)])), (md 4, aI g 48 nu), (md 5, aZ g 12 am), (md 7, aJ g 85 bd)] H := hP
    have hD : va_D A [(md 0, .inr (4, [.int (xt), .int (nI mi), .int (nI mo), .int (nI mw), .ref (md 1), .ref (md 2), .ref (md 3), .int (nI ni), .int (nI no), .ref (md 4), .ref (md 5), .ref (md 6), .int (nI ns), .ref (md 7), .ref (md 8), .int (nI 0), .int (nI (bnW v (ni + no))), .ref (md 9), .long (tp), .long (bl), .long (wt), .long (wb)])), (md 4, aI g 48 nu), (md 5, aZ g 12 am), (md 7, aJ g 85 bd)] := hD
    refine lv_iconst (v := nI 0) hx hb dX4_bounds_30 (by decide) ?_
    refine lv_istore_n (lv' := [(3, .int (nI 0)), (0, .ref (md 0)), (1, .int (nI v)), (2, .int (nI (ni + no)))]) hx hb dX4_bounds_31 rfl hl (by decide) rfl (fun ls hl => ?_)
    have lp_32 : ∀ (n : Nat) (w : Nat) (f : Nat → Int64) (b : Nat), mw - w < n → w ≤ mw → b ≤ w → bnO nu am ni (ni + no) (bnW v (ni + no)) 0 mw (bd, 0) = bnO nu am ni (ni + no) (bnW v (ni + no)) w (mw - w) (f, b) → ∀ (H : Heap) (locs : List Loc), va_P g.1 vwCl [(md 0, .inr (4, [.int (xt), .int (nI mi), .int (nI mo), .int (nI mw), .ref (md 1), .ref (md 2), .ref (md 3), .int (nI ni), .int (nI no), .ref (md 4), .ref (md 5), .ref (md 6), .int (nI ns), .ref (md 7), .ref (md 8), .int (nI b), .int (nI (bnW v (ni + no))), .ref (md 9), .long (tp), .long (bl), .long (wt), .long (wb)])), (md 4, aI g 48 nu), (md 5, aZ g 12 am), (md 7, aJ g 85 f)] H → va_D A [(md 0, .inr (4, [.int (xt), .int (nI mi), .int (nI mo), .int (nI mw), .ref (md 1), .ref (md 2), .ref (md 3), .int (nI ni), .int (nI no), .ref (md 4), .ref (md 5), .ref (md 6), .int (nI ns), .ref (md 7), .ref (md 8), .int (nI b), .int (nI (bnW v (ni + no))), .ref (md 9), .long (tp), .long (bl), .long (wt), .long (wb)])), (md 4, aI g 48 nu), (md 5, aZ g 12 am), (md 7, aJ g 85 f)] → va_S A s.heap H locs → ∀ ls : Array Slot, lv_has ls 5 [(0, .ref (md 0)), (1, .int (nI v)), (2, .int (nI (ni + no))), (3, .int (nI w))] → W p l e { frames := 0, cells := 0, slots := 0, locals := 0 } s m args below meth c H locs 0 0 Q (F0 m 32 ls []) := by
      intro n
      induction n with
      | zero =>
        intro w f b hms
        omega
      | succ n ih_32 =>
        intro w f b hms_32 hw hb3 hv H locs hP hD hS ls hl
        refine lv_iload_n hx hb dX4_bounds_32 rfl (lv_at hl 3 rfl) ?_
        refine lv_aload_n hx hb dX4_bounds_33 rfl (lv_at hl 0 rfl) ?_
        refine k_get hx hb hts hown hK hP iw_X4_bounds_X4 rfl 0 3 fm_X4_bounds_49 (by decide) rfl rfl dX4_bounds_34 ?_
        refine lv_icmp_ge (tgt := 158) hx hb dX4_bounds_37 (by decide) (fun c_1 => ?_) (fun c_1 => ?_)
        · skip
          have c_1 := (nI_leI (by omega) (by omega)).mp c_1
          have hq1 : (bnO nu am ni (ni + no) (bnW v (ni + no)) 0 mw (bd, 0)) = (f, b) := by rw [hv, show mw - w = 0 by omega]; rfl
          refine lv_iconst (v := nI 0) hx hb dX4_bounds_158 (by decide) ?_
          refine lv_istore_n (lv' := [(3, .int (nI 0)), (0, .ref (md 0)), (1, .int (nI v)), (2, .int (nI (ni + no)))]) hx hb dX4_bounds_159 rfl hl (by decide) rfl (fun ls hl => ?_)
          have lp_160 : ∀ (n : Nat) (i : Nat) (h : Nat → Int64) (c9 : Nat), ni + no + bnE v - i < n → i ≤ 5 → c9 = b + i → bnF nu am ni no mw v bd = bxO (ni + no) (bnW v (ni + no)) i (ni + no + bnE v - i) (h, c9) → ∀ (H : Heap) (locs : List Loc), va_P g.1 vwCl [(md 0, .inr (4, [.int (xt), .int (nI mi), .int (nI mo), .int (nI mw), .ref (md 1), .ref (md 2), .ref (md 3), .int (nI ni), .int (nI no), .ref (md 4), .ref (md 5), .ref (md 6), .int (nI ns), .ref (md 7), .ref (md 8), .int (nI c9), .int (nI (bnW v (ni + no))), .ref (md 9), .long (tp), .long (bl), .long (wt), .long (wb)])), (md 4, aI g 48 nu), (md 5, aZ g 12 am), (md 7, aJ g 85 h)] H → va_D A [(md 0, .inr (4, [.int (xt), .int (nI mi), .int (nI mo), .int (nI mw), .ref (md 1), .ref (md 2), .ref (md 3), .int (nI ni), .int (nI no), .ref (md 4), .ref (md 5), .ref (md 6), .int (nI ns), .ref (md 7), .ref (md 8), .int (nI c9), .int (nI (bnW v (ni + no))), .ref (md 9), .long (tp), .long (bl), .long (wt), .long (wb)])), (md 4, aI g 48 nu), (md 5, aZ g 12 am), (md 7, aJ g 85 h)] → va_S A s.heap H locs → ∀ ls : Array Slot, lv_has ls 5 [(0, .ref (md 0)), (1, .int (nI v)), (2, .int (nI (ni + no))), (3, .int (nI i))] → W p l e { frames := 0, cells := 0, slots := 0, locals := 0 } s m args below meth c H locs 0 0 Q (F0 m 160 ls []) := by
            intro n
            induction n with
            | zero =>
              intro i h c9 hms
              omega
            | succ n ih_160 =>
              intro i h c9 hms_160 hi5 hc9 hx2 H locs hP hD hS ls hl
              refine lv_iload_n hx hb dX4_bounds_160 rfl (lv_at hl 3 rfl) ?_
              refine lv_iload_n hx hb dX4_bounds_161 rfl (lv_at hl 2 rfl) ?_
              refine lv_iload_n hx hb dX4_bounds_162 rfl (lv_at hl 1 rfl) ?_
              refine lv_iconst (v := nI 1) hx hb dX4_bounds_163 (by decide) ?_
              have lp_172 : ∀ (z : Nat), z = bnE v → ∀ (H : Heap) (locs : List Loc), va_P g.1 vwCl [(md 0, .inr (4, [.int (xt), .int (nI mi), .int (nI mo), .int (nI mw), .ref (md 1), .ref (md 2), .ref (md 3), .int (nI ni), .int (nI no), .ref (md 4), .ref (md 5), .ref (md 6), .int (nI ns), .ref (md 7), .ref (md 8), .int (nI c9), .int (nI (bnW v (ni + no))), .ref (md 9), .long (tp), .long (bl), .long (wt), .long (wb)])), (md 4, aI g 48 nu), (md 5, aZ g 12 am), (md 7, aJ g 85 h)] H → va_D A [(md 0, .inr (4, [.int (xt), .int (nI mi), .int (nI mo), .int (nI mw), .ref (md 1), .ref (md 2), .ref (md 3), .int (nI ni), .int (nI no), .ref (md 4), .ref (md 5), .ref (md 6), .int (nI ns), .ref (md 7), .ref (md 8), .int (nI c9), .int (nI (bnW v (ni + no))), .ref (md 9), .long (tp), .long (bl), .long (wt), .long (wb)])), (md 4, aI g 48 nu), (md 5, aZ g 12 am), (md 7, aJ g 85 h)] → va_S A s.heap H locs → ∀ ls : Array Slot, lv_has ls 5 [(0, .ref (md 0)), (1, .int (nI v)), (2, .int (nI (ni + no))), (3, .int (nI i))] → W p l e { frames := 0, cells := 0, slots := 0, locals := 0 } s m args below meth c H locs 0 0 Q (F0 m 172 ls [.int (nI z), .int (nI (ni + no)), .int (nI i)]) := by
                intro z hz H locs hP hD hS ls hl
                subst hz
                refine lv_iadd hx hb dX4_bounds_172 ?_
                refine k_ei (y := nI (ni + no + (bnE v))) (nI_add _ _) ?_
                refine lv_icmp_ge (tgt := 246) hx hb dX4_bounds_173 (by decide) (fun c_2 => ?_) (fun c_2 => ?_)
                · skip
                  have c_2 := (nI_leI (by omega) (by omega)).mp c_2
                  have hfin : bnF nu am ni no mw v bd = (h, c9) := by rw [hx2, show ni + no + bnE v - i = 0 by omega]; rfl
                  have e1 : h = (bnF nu am ni no mw v bd).1 := (congrArg Prod.fst hfin).symm
                  have e2 : c9 = (bnF nu am ni no mw v bd).2 := (congrArg Prod.snd hfin).symm
                  clear hfin hx2
                  subst e1
                  subst e2
                  exact ret dX4_bounds_246 () (trivial) hP hD hS
                · skip
                  have c_2 := mt (nI_leI (by omega) (by omega)).mpr c_2
                  refine lv_iconst (v := nI 0) hx hb dX4_bounds_176 (by decide) ?_
                  refine lv_istore (lv' := [(4, .int (nI 0)), (0, .ref (md 0)), (1, .int (nI v)), (2, .int (nI (ni + no))), (3, .int (nI i))]) hx hb dX4_bounds_177 hl (by decide) rfl (fun ls hl => ?_)
                  have lp_179 : ∀ (n : Nat) (k : Nat) (g2 : Nat → Int64), bnW v (ni + no) - k < n → k ≤ 5 → bxI (ni + no) i c9 0 (bnW v (ni + no)) h = bxI (ni + no) i c9 k (bnW v (ni + no) - k) g2 → ∀ (H : Heap) (locs : List Loc), va_P g.1 vwCl [(md 0, .inr (4, [.int (xt), .int (nI mi), .int (nI mo), .int (nI mw), .ref (md 1), .ref (md 2), .ref (md 3), .int (nI ni), .int (nI no), .ref (md 4), .ref (md 5), .ref (md 6), .int (nI ns), .ref (md 7), .ref (md 8), .int (nI c9), .int (nI (bnW v (ni + no))), .ref (md 9), .long (tp), .long (bl), .long (wt), .long (wb)])), (md 4, aI g 48 nu), (md 5, aZ g 12 am), (md 7, aJ g 85 g2)] H → va_D A [(md 0, .inr (4, [.int (xt), .int (nI mi), .int (nI mo), .int (nI mw), .ref (md 1), .ref (md 2), .ref (md 3), .int (nI ni), .int (nI no), .ref (md 4), .ref (md 5), .ref (md 6), .int (nI ns), .ref (md 7), .ref (md 8), .int (nI c9), .int (nI (bnW v (ni + no))), .ref (md 9), .long (tp), .long (bl), .long (wt), .long (wb)])), (md 4, aI g 48 nu), (md 5, aZ g 12 am), (md 7, aJ g 85 g2)] → va_S A s.heap H locs → ∀ ls : Array Slot, lv_has ls 5 [(0, .ref (md 0)), (1, .int (nI v)), (2, .int (nI (ni + no))), (3, .int (nI i)), (4, .int (nI k))] → W p l e { frames := 0, cells := 0, slots := 0, locals := 0 } s m args below meth c H locs 0 0 Q (F0 m 179 ls []) := by
                    intro n
                    induction n with
                    | zero =>
                      intro k g2 hms
                      omega
                    | succ n ih_179 =>
                      intro k g2 hms_179 hk hI H locs hP hD hS ls hl
                      refine lv_iload hx hb dX4_bounds_179 (lv_at hl 4 rfl) ?_
                      refine lv_aload_n hx hb dX4_bounds_181 rfl (lv_at hl 0 rfl) ?_
                      refine k_get hx hb hts hown hK hP iw_X4_bounds_X4 rfl 0 16 fm_X4_bounds_70 (by decide) rfl rfl dX4_bounds_182 ?_
                      refine lv_icmp_ge (tgt := 230) hx hb dX4_bounds_185 (by decide) (fun c_3 => ?_) (fun c_3 => ?_)
                      · skip
                        have c_3 := (nI_leI (by omega) (by omega)).mp c_3
                        have hx3 : bnF nu am ni no mw v bd = bxO (ni + no) (bnW v (ni + no)) (i + 1) (ni + no + bnE v - (i + 1)) (g2, c9 + 1) := by rw [hx2, show ni + no + bnE v - i = (ni + no + bnE v - (i + 1)) + 1 by omega, bxO, hI, show bnW v (ni + no) - k = 0 by omega]; rfl
                        refine lv_aload_n hx hb dX4_bounds_230 rfl (lv_at hl 0 rfl) ?_
                        refine lv_dup hx hb dX4_bounds_231 rfl ?_
                        refine k_get hx hb hts hown hK hP iw_X4_bounds_X4 rfl 0 15 fm_X4_bounds_73 (by decide) rfl rfl dX4_bounds_232 ?_
                        refine lv_iconst (v := nI 1) hx hb dX4_bounds_235 (by decide) ?_
                        refine lv_iadd hx hb dX4_bounds_236 ?_
                        refine k_ei (y := nI (c9 + 1)) (nI_add _ _) ?_
                        refine k_put hx hb hts hown hK hP hD hS iw_X4_bounds_X4 rfl tyX4 tyX4_ok nmX4 0 15 fm_X4_bounds_73 (by decide) rfl rfl rfl rfl rfl (Nat.le_of_ble_eq_true rfl) dX4_bounds_237 (fun H locs hP hD hS => ?_)
                        have hP : va_P g.1 vwCl [(md 0, .inr (4, [.int (xt), .int (nI mi), .int (nI mo), .int (nI mw), .ref (md 1), .ref (md 2), .ref (md 3), .int (nI ni), .int (nI no), .ref (md 4), .ref (md 5), .ref (md 6), .int (nI ns), .ref (md 7), .ref (md 8), .int (nI (c9 + 1)), .int (nI (bnW v (ni + no))), .ref (md 9), .long (tp), .long (bl), .long (wt), .long (wb)])), (md 4, aI g 48 nu), (md 5, aZ g 12 am), (md 7, aJ g 85 g2)] H := hP
                        have hD : va_D A [(md 0, .inr (4, [.int (xt), .int (nI mi), .int (nI mo), .int (nI mw), .ref (md 1), .ref (md 2), .ref (md 3), .int (nI ni), .int (nI no), .ref (md 4), .ref (md 5), .ref (md 6), .int (nI ns), .ref (md 7), .ref (md 8), .int (nI (c9 + 1)), .int (nI (bnW v (ni + no))), .ref (md 9), .long (tp), .long (bl), .long (wt), .long (wb)])), (md 4, aI g 48 nu), (md 5, aZ g 12 am), (md 7, aJ g 85 g2)] := hD
                        refine lv_iinc (v := nI (i + 1)) (lv' := [(3, .int (nI (i + 1))), (0, .ref (md 0)), (1, .int (nI v)), (2, .int (nI (ni + no))), (4, .int (nI k))]) hx hb dX4_bounds_240 hl (k := 3) rfl (nI_inc1 i) (by decide) rfl (fun ls hl => ?_)
                        refine lv_goto (tgt := 160) hx hb dX4_bounds_243 (by decide) ?_
                        exact ih_160 (i + 1) g2 (c9 + 1) (by omega) (by omega) (by omega) hx3 _ _ hP hD hS ls (lv_sub hl [1, 2, 3, 0] rfl)
                      · skip
                        have c_3 := mt (nI_leI (by omega) (by omega)).mpr c_3
                        refine lv_aload_n hx hb dX4_bounds_188 rfl (lv_at hl 0 rfl) ?_
                        refine k_get hx hb hts hown hK hP iw_X4_bounds_X4 rfl 0 13 fm_X4_bounds_37 (by decide) rfl rfl dX4_bounds_189 ?_
                        refine lv_iconst (v := nI 5) hx hb dX4_bounds_192 (by decide) ?_
                        refine lv_aload_n hx hb dX4_bounds_193 rfl (lv_at hl 0 rfl) ?_
                        refine k_get hx hb hts hown hK hP iw_X4_bounds_X4 rfl 0 15 fm_X4_bounds_73 (by decide) rfl rfl dX4_bounds_194 ?_
                        refine lv_imul hx hb dX4_bounds_197 ?_
                        refine k_ei (y := nI (c9 * 5)) ((pk_mul _ _).trans (congrArg nI (Nat.mul_comm _ _))) ?_
                        refine lv_iload hx hb dX4_bounds_198 (lv_at hl 4 rfl) ?_
                        refine lv_iadd hx hb dX4_bounds_200 ?_
                        refine k_ei (y := nI (c9 * 5 + k)) (nI_add _ _) ?_
                        refine lv_iload hx hb dX4_bounds_201 (lv_at hl 4 rfl) ?_
                        refine lv_iload_n hx hb dX4_bounds_203 rfl (lv_at hl 3 rfl) ?_
                        have lp_223 : ∀ (H : Heap) (locs : List Loc), va_P g.1 vwCl [(md 0, .inr (4, [.int (xt), .int (nI mi), .int (nI mo), .int (nI mw), .ref (md 1), .ref (md 2), .ref (md 3), .int (nI ni), .int (nI no), .ref (md 4), .ref (md 5), .ref (md 6), .int (nI ns), .ref (md 7), .ref (md 8), .int (nI c9), .int (nI (bnW v (ni + no))), .ref (md 9), .long (tp), .long (bl), .long (wt), .long (wb)])), (md 4, aI g 48 nu), (md 5, aZ g 12 am), (md 7, aJ g 85 g2)] H → va_D A [(md 0, .inr (4, [.int (xt), .int (nI mi), .int (nI mo), .int (nI mw), .ref (md 1), .ref (md 2), .ref (md 3), .int (nI ni), .int (nI no), .ref (md 4), .ref (md 5), .ref (md 6), .int (nI ns), .ref (md 7), .ref (md 8), .int (nI c9), .int (nI (bnW v (ni + no))), .ref (md 9), .long (tp), .long (bl), .long (wt), .long (wb)])), (md 4, aI g 48 nu), (md 5, aZ g 12 am), (md 7, aJ g 85 g2)] → va_S A s.heap H locs → ∀ ls : Array Slot, lv_has ls 5 [(0, .ref (md 0)), (1, .int (nI v)), (2, .int (nI (ni + no))), (3, .int (nI i)), (4, .int (nI k))] → W p l e { frames := 0, cells := 0, slots := 0, locals := 0 } s m args below meth c H locs 0 0 Q (F0 m 223 ls [.long (bxV (ni + no) i k), .int (nI (c9 * 5 + k)), .ref (md 7)]) := by
                          intro   H locs hP hD hS ls hl
                          refine k_last hx hb hK hP hD hS 3 rfl (by omega) (by omega) dX4_bounds_223 (fun H locs hP hD hS => ?_)
                          have hP : va_P g.1 vwCl [(md 0, .inr (4, [.int (xt), .int (nI mi), .int (nI mo), .int (nI mw), .ref (md 1), .ref (md 2), .ref (md 3), .int (nI ni), .int (nI no), .ref (md 4), .ref (md 5), .ref (md 6), .int (nI ns), .ref (md 7), .ref (md 8), .int (nI c9), .int (nI (bnW v (ni + no))), .ref (md 9), .long (tp), .long (bl), .long (wt), .long (wb)])), (md 4, aI g 48 nu), (md 5, aZ g 12 am), (md 7, aJ g 85 (vp_updL g2 (c9 * 5 + k) (bxV (ni + no) i k)))] H := hP
                          have hD : va_D A [(md 0, .inr (4, [.int (xt), .int (nI mi), .int (nI mo), .int (nI mw), .ref (md 1), .ref (md 2), .ref (md 3), .int (nI ni), .int (nI no), .ref (md 4), .ref (md 5), .ref (md 6), .int (nI ns), .ref (md 7), .ref (md 8), .int (nI c9), .int (nI (bnW v (ni + no))), .ref (md 9), .long (tp), .long (bl), .long (wt), .long (wb)])), (md 4, aI g 48 nu), (md 5, aZ g 12 am), (md 7, aJ g 85 (vp_updL g2 (c9 * 5 + k) (bxV (ni + no) i k)))] := hD
                          refine lv_iinc (v := nI (k + 1)) (lv' := [(4, .int (nI (k + 1))), (0, .ref (md 0)), (1, .int (nI v)), (2, .int (nI (ni + no))), (3, .int (nI i))]) hx hb dX4_bounds_224 hl (k := 4) rfl (nI_inc1 k) (by decide) rfl (fun ls hl => ?_)
                          refine lv_goto (tgt := 179) hx hb dX4_bounds_227 (by decide) ?_
                          exact ih_179 (k + 1) (vp_updL g2 (c9 * 5 + k) (bxV (ni + no) i k)) (by omega) (by omega) (by rw [hI, show bnW v (ni + no) - k = (bnW v (ni + no) - (k + 1)) + 1 by omega, bxI]) _ _ hP hD hS ls (lv_sub hl [1, 2, 3, 4, 0] rfl)
                        refine lv_icmp_eq (tgt := 211) hx hb dX4_bounds_204 (by decide) (fun c_4 => ?_) (fun c_4 => ?_)
                        · skip
                          have c_4 := (nI_eq (by omega) (by omega)).mp c_4
                          have hki := c_4
                          refine lv_iload_n hx hb dX4_bounds_211 rfl (lv_at hl 3 rfl) ?_
                          refine lv_iload_n hx hb dX4_bounds_212 rfl (lv_at hl 2 rfl) ?_
                          refine lv_icmp_ge (tgt := 220) hx hb dX4_bounds_213 (by decide) (fun c_5 => ?_) (fun c_5 => ?_)
                          · skip
                            have c_5 := (nI_leI (by omega) (by omega)).mp c_5
                            have hxv : bxV (ni + no) i k = -1 := by rw [bxV, if_pos hki, if_neg (by omega)]
                            refine lv_ldc2 (v := -1) hx hb hown (hts _ (by decide +kernel)) dX4_bounds_220 ?_
                            refine k_el (y := bxV (ni + no) i k) (hxv.symm) ?_
                            exact lp_223   _ _ hP hD hS ls (lv_sub hl [0, 1, 2, 3, 4] rfl)
                          · skip
                            have c_5 := mt (nI_leI (by omega) (by omega)).mpr c_5
                            have hxv : bxV (ni + no) i k = 1 := by rw [bxV, if_pos hki, if_pos (by omega)]
                            refine lv_lconst (v := 1) hx hb dX4_bounds_216 (by decide) ?_
                            refine k_el (y := bxV (ni + no) i k) (hxv.symm) ?_
                            refine lv_goto (tgt := 223) hx hb dX4_bounds_217 (by decide) ?_
                            exact lp_223   _ _ hP hD hS ls (lv_sub hl [0, 1, 2, 3, 4] rfl)
                        · skip
                          have c_4 := mt (nI_eq (by omega) (by omega)).mpr c_4
                          have hxv : bxV (ni + no) i k = 0 := if_neg c_4
                          refine lv_lconst (v := 0) hx hb dX4_bounds_207 (by decide) ?_
                          refine k_el (y := bxV (ni + no) i k) (hxv.symm) ?_
                          refine lv_goto (tgt := 223) hx hb dX4_bounds_208 (by decide) ?_
                          exact lp_223   _ _ hP hD hS ls (lv_sub hl [0, 1, 2, 3, 4] rfl)
                  exact lp_179 (bnW v (ni + no) - 0 + 1) 0 h (by omega) (by omega) rfl _ _ hP hD hS ls (lv_sub hl [1, 2, 3, 4, 0] rfl)
              refine lv_icmp_ne (tgt := 171) hx hb dX4_bounds_164 (by decide) (fun c_6 => ?_) (fun c_6 => ?_)
              · skip
                have c_6 := mt (nI_eq (by omega) (by omega)).mpr c_6
                have hse : 0 = bnE v := by rw [bnE, if_neg c_6]
                refine lv_iconst (v := nI 0) hx hb dX4_bounds_171 (by decide) ?_
                exact lp_172 0 hse _ _ hP hD hS ls (lv_sub hl [0, 1, 2, 3] rfl)
              · skip
                have c_6 := (nI_eq (by omega) (by omega)).mp c_6
                have hse : 1 = bnE v := by rw [bnE, if_pos c_6]
                refine lv_iconst (v := nI 1) hx hb dX4_bounds_167 (by decide) ?_
                refine lv_goto (tgt := 172) hx hb dX4_bounds_168 (by decide) ?_
                exact lp_172 1 hse _ _ hP hD hS ls (lv_sub hl [0, 1, 2, 3] rfl)
          exact lp_160 (ni + no + bnE v - 0 + 1) 0 f b (by omega) (by omega) (by omega) (by rw [bnF, hq1]; rfl) _ _ hP hD hS ls (lv_sub hl [1, 2, 3, 0] rfl)
        · skip
          have c_1 := mt (nI_leI (by omega) (by omega)).mpr c_1
          refine lv_aload_n hx hb dX4_bounds_40 rfl (lv_at hl 0 rfl) ?_
          refine k_get hx hb hts hown hK hP iw_X4_bounds_X4 rfl 0 10 fm_X4_bounds_30 (by decide) rfl rfl dX4_bounds_41 ?_
          refine lv_iload_n hx hb dX4_bounds_44 rfl (lv_at hl 3 rfl) ?_
          refine k_zald hx hb hK hP 2 rfl (by omega) (by omega) dX4_bounds_45 ?_
          refine lv_if_ne (tgt := 52) hx hb dX4_bounds_46 (by decide) (fun c_7 => ?_) (fun c_7 => ?_)
          · skip
            have ham := c_7
            refine lv_iconst (v := nI 0) hx hb dX4_bounds_52 (by decide) ?_
            refine lv_istore (lv' := [(4, .int (nI 0)), (0, .ref (md 0)), (1, .int (nI v)), (2, .int (nI (ni + no))), (3, .int (nI w))]) hx hb dX4_bounds_53 hl (by decide) rfl (fun ls hl => ?_)
            have lp_55 : ∀ (n : Nat) (k : Nat) (h : Nat → Int64), ni + no - k < n → k ≤ ni + no → bnI nu ni w b 0 (ni + no) f = bnI nu ni w b k (ni + no - k) h → ∀ (H : Heap) (locs : List Loc), va_P g.1 vwCl [(md 0, .inr (4, [.int (xt), .int (nI mi), .int (nI mo), .int (nI mw), .ref (md 1), .ref (md 2), .ref (md 3), .int (nI ni), .int (nI no), .ref (md 4), .ref (md 5), .ref (md 6), .int (nI ns), .ref (md 7), .ref (md 8), .int (nI b), .int (nI (bnW v (ni + no))), .ref (md 9), .long (tp), .long (bl), .long (wt), .long (wb)])), (md 4, aI g 48 nu), (md 5, aZ g 12 am), (md 7, aJ g 85 h)] H → va_D A [(md 0, .inr (4, [.int (xt), .int (nI mi), .int (nI mo), .int (nI mw), .ref (md 1), .ref (md 2), .ref (md 3), .int (nI ni), .int (nI no), .ref (md 4), .ref (md 5), .ref (md 6), .int (nI ns), .ref (md 7), .ref (md 8), .int (nI b), .int (nI (bnW v (ni + no))), .ref (md 9), .long (tp), .long (bl), .long (wt), .long (wb)])), (md 4, aI g 48 nu), (md 5, aZ g 12 am), (md 7, aJ g 85 h)] → va_S A s.heap H locs → ∀ ls : Array Slot, lv_has ls 5 [(0, .ref (md 0)), (1, .int (nI v)), (2, .int (nI (ni + no))), (3, .int (nI w)), (4, .int (nI k))] → W p l e { frames := 0, cells := 0, slots := 0, locals := 0 } s m args below meth c H locs 0 0 Q (F0 m 55 ls []) := by
              intro n
              induction n with
              | zero =>
                intro k h hms
                omega
              | succ n ih_55 =>
                intro k h hms_55 hk hI H locs hP hD hS ls hl
                refine lv_iload hx hb dX4_bounds_55 (lv_at hl 4 rfl) ?_
                refine lv_iload_n hx hb dX4_bounds_57 rfl (lv_at hl 2 rfl) ?_
                refine lv_icmp_ge (tgt := 118) hx hb dX4_bounds_58 (by decide) (fun c_8 => ?_) (fun c_8 => ?_)
                · skip
                  have c_8 := (nI_leI (by omega) (by omega)).mp c_8
                  have hh : h = bnI nu ni w b 0 (ni + no) f := by rw [hI, show ni + no - k = 0 by omega]; rfl
                  clear hI
                  subst hh
                  refine lv_aload_n hx hb dX4_bounds_118 rfl (lv_at hl 0 rfl) ?_
                  refine k_get hx hb hts hown hK hP iw_X4_bounds_X4 rfl 0 16 fm_X4_bounds_70 (by decide) rfl rfl dX4_bounds_119 ?_
                  refine lv_iload_n hx hb dX4_bounds_122 rfl (lv_at hl 2 rfl) ?_
                  have lp_142 : ∀ (e2 : Nat → Int64), e2 = bnR nu ni (ni + no) (bnW v (ni + no)) w b f → ∀ (H : Heap) (locs : List Loc), va_P g.1 vwCl [(md 0, .inr (4, [.int (xt), .int (nI mi), .int (nI mo), .int (nI mw), .ref (md 1), .ref (md 2), .ref (md 3), .int (nI ni), .int (nI no), .ref (md 4), .ref (md 5), .ref (md 6), .int (nI ns), .ref (md 7), .ref (md 8), .int (nI b), .int (nI (bnW v (ni + no))), .ref (md 9), .long (tp), .long (bl), .long (wt), .long (wb)])), (md 4, aI g 48 nu), (md 5, aZ g 12 am), (md 7, aJ g 85 e2)] H → va_D A [(md 0, .inr (4, [.int (xt), .int (nI mi), .int (nI mo), .int (nI mw), .ref (md 1), .ref (md 2), .ref (md 3), .int (nI ni), .int (nI no), .ref (md 4), .ref (md 5), .ref (md 6), .int (nI ns), .ref (md 7), .ref (md 8), .int (nI b), .int (nI (bnW v (ni + no))), .ref (md 9), .long (tp), .long (bl), .long (wt), .long (wb)])), (md 4, aI g 48 nu), (md 5, aZ g 12 am), (md 7, aJ g 85 e2)] → va_S A s.heap H locs → ∀ ls : Array Slot, lv_has ls 5 [(0, .ref (md 0)), (1, .int (nI v)), (2, .int (nI (ni + no))), (3, .int (nI w))] → W p l e { frames := 0, cells := 0, slots := 0, locals := 0 } s m args below meth c H locs 0 0 Q (F0 m 142 ls []) := by
                    intro e2 he2 H locs hP hD hS ls hl
                    subst he2
                    have hvn : bnO nu am ni (ni + no) (bnW v (ni + no)) 0 mw (bd, 0) = bnO nu am ni (ni + no) (bnW v (ni + no)) (w + 1) (mw - (w + 1)) (bnR nu ni (ni + no) (bnW v (ni + no)) w b f, b + 1) := by rw [hv, show mw - w = (mw - (w + 1)) + 1 by omega, bnO, if_neg ham]
                    refine lv_aload_n hx hb dX4_bounds_142 rfl (lv_at hl 0 rfl) ?_
                    refine lv_dup hx hb dX4_bounds_143 rfl ?_
                    refine k_get hx hb hts hown hK hP iw_X4_bounds_X4 rfl 0 15 fm_X4_bounds_73 (by decide) rfl rfl dX4_bounds_144 ?_
                    refine lv_iconst (v := nI 1) hx hb dX4_bounds_147 (by decide) ?_
                    refine lv_iadd hx hb dX4_bounds_148 ?_
                    refine k_ei (y := nI (b + 1)) (nI_add _ _) ?_
                    refine k_put hx hb hts hown hK hP hD hS iw_X4_bounds_X4 rfl tyX4 tyX4_ok nmX4 0 15 fm_X4_bounds_73 (by decide) rfl rfl rfl rfl rfl (Nat.le_of_ble_eq_true rfl) dX4_bounds_149 (fun H locs hP hD hS => ?_)
                    have hP : va_P g.1 vwCl [(md 0, .inr (4, [.int (xt), .int (nI mi), .int (nI mo), .int (nI mw), .ref (md 1), .ref (md 2), .ref (md 3), .int (nI ni), .int (nI no), .ref (md 4), .ref (md 5), .ref (md 6), .int (nI ns), .ref (md 7), .ref (md 8), .int (nI (b + 1)), .int (nI (bnW v (ni + no))), .ref (md 9), .long (tp), .long (bl), .long (wt), .long (wb)])), (md 4, aI g 48 nu), (md 5, aZ g 12 am), (md 7, aJ g 85 (bnR nu ni (ni + no) (bnW v (ni + no)) w b f))] H := hP
                    have hD : va_D A [(md 0, .inr (4, [.int (xt), .int (nI mi), .int (nI mo), .int (nI mw), .ref (md 1), .ref (md 2), .ref (md 3), .int (nI ni), .int (nI no), .ref (md 4), .ref (md 5), .ref (md 6), .int (nI ns), .ref (md 7), .ref (md 8), .int (nI (b + 1)), .int (nI (bnW v (ni + no))), .ref (md 9), .long (tp), .long (bl), .long (wt), .long (wb)])), (md 4, aI g 48 nu), (md 5, aZ g 12 am), (md 7, aJ g 85 (bnR nu ni (ni + no) (bnW v (ni + no)) w b f))] := hD
                    refine lv_iinc (v := nI (w + 1)) (lv' := [(3, .int (nI (w + 1))), (0, .ref (md 0)), (1, .int (nI v)), (2, .int (nI (ni + no)))]) hx hb dX4_bounds_152 hl (k := 3) rfl (nI_inc1 w) (by decide) rfl (fun ls hl => ?_)
                    refine lv_goto (tgt := 32) hx hb dX4_bounds_155 (by decide) ?_
                    exact ih_32 (w + 1) (bnR nu ni (ni + no) (bnW v (ni + no)) w b f) (b + 1) (by omega) (by omega) (by omega) hvn _ _ hP hD hS ls (lv_sub hl [1, 2, 3, 0] rfl)
                  refine lv_icmp_le (tgt := 142) hx hb dX4_bounds_123 (by decide) (fun c_9 => ?_) (fun c_9 => ?_)
                  · skip
                    have c_9 := (nI_leI (by omega) (by omega)).mp c_9
                    have hrr : bnI nu ni w b 0 (ni + no) f = bnR nu ni (ni + no) (bnW v (ni + no)) w b f := (if_neg (by omega)).symm
                    exact lp_142 (bnI nu ni w b 0 (ni + no) f) hrr _ _ hP hD hS ls (lv_sub hl [0, 1, 2, 3] rfl)
                  · skip
                    have c_9 := mt (nI_leI (by omega) (by omega)).mpr c_9
                    have hrr : vp_updL (bnI nu ni w b 0 (ni + no) f) (b * 5 + (ni + no)) (-1) = bnR nu ni (ni + no) (bnW v (ni + no)) w b f := (if_pos (by omega)).symm
                    refine lv_aload_n hx hb dX4_bounds_126 rfl (lv_at hl 0 rfl) ?_
                    refine k_get hx hb hts hown hK hP iw_X4_bounds_X4 rfl 0 13 fm_X4_bounds_37 (by decide) rfl rfl dX4_bounds_127 ?_
                    refine lv_iconst (v := nI 5) hx hb dX4_bounds_130 (by decide) ?_
                    refine lv_aload_n hx hb dX4_bounds_131 rfl (lv_at hl 0 rfl) ?_
                    refine k_get hx hb hts hown hK hP iw_X4_bounds_X4 rfl 0 15 fm_X4_bounds_73 (by decide) rfl rfl dX4_bounds_132 ?_
                    refine lv_imul hx hb dX4_bounds_135 ?_
                    refine k_ei (y := nI (b * 5)) ((pk_mul _ _).trans (congrArg nI (Nat.mul_comm _ _))) ?_
                    refine lv_iload_n hx hb dX4_bounds_136 rfl (lv_at hl 2 rfl) ?_
                    refine lv_iadd hx hb dX4_bounds_137 ?_
                    refine k_ei (y := nI (b * 5 + (ni + no))) (nI_add _ _) ?_
                    refine lv_ldc2 (v := -1) hx hb hown (hts _ (by decide +kernel)) dX4_bounds_138 ?_
                    refine k_last hx hb hK hP hD hS 3 rfl (by omega) (by omega) dX4_bounds_141 (fun H locs hP hD hS => ?_)
                    have hP : va_P g.1 vwCl [(md 0, .inr (4, [.int (xt), .int (nI mi), .int (nI mo), .int (nI mw), .ref (md 1), .ref (md 2), .ref (md 3), .int (nI ni), .int (nI no), .ref (md 4), .ref (md 5), .ref (md 6), .int (nI ns), .ref (md 7), .ref (md 8), .int (nI b), .int (nI (bnW v (ni + no))), .ref (md 9), .long (tp), .long (bl), .long (wt), .long (wb)])), (md 4, aI g 48 nu), (md 5, aZ g 12 am), (md 7, aJ g 85 (vp_updL (bnI nu ni w b 0 (ni + no) f) (b * 5 + (ni + no)) (-1)))] H := hP
                    have hD : va_D A [(md 0, .inr (4, [.int (xt), .int (nI mi), .int (nI mo), .int (nI mw), .ref (md 1), .ref (md 2), .ref (md 3), .int (nI ni), .int (nI no), .ref (md 4), .ref (md 5), .ref (md 6), .int (nI ns), .ref (md 7), .ref (md 8), .int (nI b), .int (nI (bnW v (ni + no))), .ref (md 9), .long (tp), .long (bl), .long (wt), .long (wb)])), (md 4, aI g 48 nu), (md 5, aZ g 12 am), (md 7, aJ g 85 (vp_updL (bnI nu ni w b 0 (ni + no) f) (b * 5 + (ni + no)) (-1)))] := hD
                    exact lp_142 (vp_updL (bnI nu ni w b 0 (ni + no) f) (b * 5 + (ni + no)) (-1)) hrr _ _ hP hD hS ls (lv_sub hl [0, 1, 2, 3] rfl)
                · skip
                  have c_8 := mt (nI_leI (by omega) (by omega)).mpr c_8
                  refine lv_aload_n hx hb dX4_bounds_61 rfl (lv_at hl 0 rfl) ?_
                  refine k_get hx hb hts hown hK hP iw_X4_bounds_X4 rfl 0 13 fm_X4_bounds_37 (by decide) rfl rfl dX4_bounds_62 ?_
                  refine lv_iconst (v := nI 5) hx hb dX4_bounds_65 (by decide) ?_
                  refine lv_aload_n hx hb dX4_bounds_66 rfl (lv_at hl 0 rfl) ?_
                  refine k_get hx hb hts hown hK hP iw_X4_bounds_X4 rfl 0 15 fm_X4_bounds_73 (by decide) rfl rfl dX4_bounds_67 ?_
                  refine lv_imul hx hb dX4_bounds_70 ?_
                  refine k_ei (y := nI (b * 5)) ((pk_mul _ _).trans (congrArg nI (Nat.mul_comm _ _))) ?_
                  refine lv_iload hx hb dX4_bounds_71 (lv_at hl 4 rfl) ?_
                  refine lv_iadd hx hb dX4_bounds_73 ?_
                  refine k_ei (y := nI (b * 5 + k)) (nI_add _ _) ?_
                  refine lv_iload hx hb dX4_bounds_74 (lv_at hl 4 rfl) ?_
                  refine lv_aload_n hx hb dX4_bounds_76 rfl (lv_at hl 0 rfl) ?_
                  refine k_get hx hb hts hown hK hP iw_X4_bounds_X4 rfl 0 7 fm_X4_bounds_64 (by decide) rfl rfl dX4_bounds_77 ?_
                  have lp_111 : ∀ (H : Heap) (locs : List Loc), va_P g.1 vwCl [(md 0, .inr (4, [.int (xt), .int (nI mi), .int (nI mo), .int (nI mw), .ref (md 1), .ref (md 2), .ref (md 3), .int (nI ni), .int (nI no), .ref (md 4), .ref (md 5), .ref (md 6), .int (nI ns), .ref (md 7), .ref (md 8), .int (nI b), .int (nI (bnW v (ni + no))), .ref (md 9), .long (tp), .long (bl), .long (wt), .long (wb)])), (md 4, aI g 48 nu), (md 5, aZ g 12 am), (md 7, aJ g 85 h)] H → va_D A [(md 0, .inr (4, [.int (xt), .int (nI mi), .int (nI mo), .int (nI mw), .ref (md 1), .ref (md 2), .ref (md 3), .int (nI ni), .int (nI no), .ref (md 4), .ref (md 5), .ref (md 6), .int (nI ns), .ref (md 7), .ref (md 8), .int (nI b), .int (nI (bnW v (ni + no))), .ref (md 9), .long (tp), .long (bl), .long (wt), .long (wb)])), (md 4, aI g 48 nu), (md 5, aZ g 12 am), (md 7, aJ g 85 h)] → va_S A s.heap H locs → ∀ ls : Array Slot, lv_has ls 5 [(0, .ref (md 0)), (1, .int (nI v)), (2, .int (nI (ni + no))), (3, .int (nI w)), (4, .int (nI k))] → W p l e { frames := 0, cells := 0, slots := 0, locals := 0 } s m args below meth c H locs 0 0 Q (F0 m 111 ls [.long (bnV nu ni w k), .int (nI (b * 5 + k)), .ref (md 7)]) := by
                    intro   H locs hP hD hS ls hl
                    refine k_last hx hb hK hP hD hS 3 rfl (by omega) (by omega) dX4_bounds_111 (fun H locs hP hD hS => ?_)
                    have hP : va_P g.1 vwCl [(md 0, .inr (4, [.int (xt), .int (nI mi), .int (nI mo), .int (nI mw), .ref (md 1), .ref (md 2), .ref (md 3), .int (nI ni), .int (nI no), .ref (md 4), .ref (md 5), .ref (md 6), .int (nI ns), .ref (md 7), .ref (md 8), .int (nI b), .int (nI (bnW v (ni + no))), .ref (md 9), .long (tp), .long (bl), .long (wt), .long (wb)])), (md 4, aI g 48 nu), (md 5, aZ g 12 am), (md 7, aJ g 85 (vp_updL h (b * 5 + k) (bnV nu ni w k)))] H := hP
                    have hD : va_D A [(md 0, .inr (4, [.int (xt), .int (nI mi), .int (nI mo), .int (nI mw), .ref (md 1), .ref (md 2), .ref (md 3), .int (nI ni), .int (nI no), .ref (md 4), .ref (md 5), .ref (md 6), .int (nI ns), .ref (md 7), .ref (md 8), .int (nI b), .int (nI (bnW v (ni + no))), .ref (md 9), .long (tp), .long (bl), .long (wt), .long (wb)])), (md 4, aI g 48 nu), (md 5, aZ g 12 am), (md 7, aJ g 85 (vp_updL h (b * 5 + k) (bnV nu ni w k)))] := hD
                    refine lv_iinc (v := nI (k + 1)) (lv' := [(4, .int (nI (k + 1))), (0, .ref (md 0)), (1, .int (nI v)), (2, .int (nI (ni + no))), (3, .int (nI w))]) hx hb dX4_bounds_112 hl (k := 4) rfl (nI_inc1 k) (by decide) rfl (fun ls hl => ?_)
                    refine lv_goto (tgt := 55) hx hb dX4_bounds_115 (by decide) ?_
                    exact ih_55 (k + 1) (vp_updL h (b * 5 + k) (bnV nu ni w k)) (by omega) (by omega) (by rw [hI, show ni + no - k = (ni + no - (k + 1)) + 1 by omega, bnI]) _ _ hP hD hS ls (lv_sub hl [1, 2, 3, 4, 0] rfl)
                  refine lv_icmp_ge (tgt := 98) hx hb dX4_bounds_80 (by decide) (fun c_10 => ?_) (fun c_10 => ?_)
                  · skip
                    have c_10 := (nI_leI (by omega) (by omega)).mp c_10
                    have hbv : bnV nu ni w k = (-nu (w * 4 + k)).toInt64 := if_neg (by omega)
                    refine lv_aload_n hx hb dX4_bounds_98 rfl (lv_at hl 0 rfl) ?_
                    refine k_get hx hb hts hown hK hP iw_X4_bounds_X4 rfl 0 9 fm_X4_bounds_27 (by decide) rfl rfl dX4_bounds_99 ?_
                    refine lv_iconst (v := nI 4) hx hb dX4_bounds_102 (by decide) ?_
                    refine lv_iload_n hx hb dX4_bounds_103 rfl (lv_at hl 3 rfl) ?_
                    refine lv_imul hx hb dX4_bounds_104 ?_
                    refine k_ei (y := nI (w * 4)) ((pk_mul _ _).trans (congrArg nI (Nat.mul_comm _ _))) ?_
                    refine lv_iload hx hb dX4_bounds_105 (lv_at hl 4 rfl) ?_
                    refine lv_iadd hx hb dX4_bounds_107 ?_
                    refine k_ei (y := nI (w * 4 + k)) (nI_add _ _) ?_
                    refine k_iald hx hb hK hP 1 rfl (by omega) (by omega) dX4_bounds_108 ?_
                    refine lv_ineg hx hb dX4_bounds_109 ?_
                    refine lv_i2l hx hb dX4_bounds_110 rfl ?_
                    refine k_el (y := bnV nu ni w k) (hbv.symm) ?_
                    exact lp_111   _ _ hP hD hS ls (lv_sub hl [0, 1, 2, 3, 4] rfl)
                  · skip
                    have c_10 := mt (nI_leI (by omega) (by omega)).mpr c_10
                    have hbv : bnV nu ni w k = (nu (w * 4 + k)).toInt64 := if_pos (by omega)
                    refine lv_aload_n hx hb dX4_bounds_83 rfl (lv_at hl 0 rfl) ?_
                    refine k_get hx hb hts hown hK hP iw_X4_bounds_X4 rfl 0 9 fm_X4_bounds_27 (by decide) rfl rfl dX4_bounds_84 ?_
                    refine lv_iconst (v := nI 4) hx hb dX4_bounds_87 (by decide) ?_
                    refine lv_iload_n hx hb dX4_bounds_88 rfl (lv_at hl 3 rfl) ?_
                    refine lv_imul hx hb dX4_bounds_89 ?_
                    refine k_ei (y := nI (w * 4)) ((pk_mul _ _).trans (congrArg nI (Nat.mul_comm _ _))) ?_
                    refine lv_iload hx hb dX4_bounds_90 (lv_at hl 4 rfl) ?_
                    refine lv_iadd hx hb dX4_bounds_92 ?_
                    refine k_ei (y := nI (w * 4 + k)) (nI_add _ _) ?_
                    refine k_iald hx hb hK hP 1 rfl (by omega) (by omega) dX4_bounds_93 ?_
                    refine lv_i2l hx hb dX4_bounds_94 rfl ?_
                    refine k_el (y := bnV nu ni w k) (hbv.symm) ?_
                    refine lv_goto (tgt := 111) hx hb dX4_bounds_95 (by decide) ?_
                    exact lp_111   _ _ hP hD hS ls (lv_sub hl [0, 1, 2, 3, 4] rfl)
            exact lp_55 (ni + no - 0 + 1) 0 f (by omega) (by omega) rfl _ _ hP hD hS ls (lv_sub hl [1, 2, 3, 4, 0] rfl)
          · skip
            have hvn : bnO nu am ni (ni + no) (bnW v (ni + no)) 0 mw (bd, 0) = bnO nu am ni (ni + no) (bnW v (ni + no)) (w + 1) (mw - (w + 1)) (f, b) := by rw [hv, show mw - w = (mw - (w + 1)) + 1 by omega, bnO, if_pos c_7]
            refine lv_goto (tgt := 152) hx hb dX4_bounds_49 (by decide) ?_
            refine lv_iinc (v := nI (w + 1)) (lv' := [(3, .int (nI (w + 1))), (0, .ref (md 0)), (1, .int (nI v)), (2, .int (nI (ni + no)))]) hx hb dX4_bounds_152 hl (k := 3) rfl (nI_inc1 w) (by decide) rfl (fun ls hl => ?_)
            refine lv_goto (tgt := 32) hx hb dX4_bounds_155 (by decide) ?_
            exact ih_32 (w + 1) f b (by omega) (by omega) (by omega) hvn _ _ hP hD hS ls (lv_sub hl [1, 2, 3, 0] rfl)
    exact lp_32 (mw - 0 + 1) 0 bd 0 (by omega) (by omega) (by omega) rfl _ _ hP hD hS ls (lv_sub hl [1, 2, 3, 0] rfl)
  refine lv_if_ne (tgt := 19) hx hb dX4_bounds_12 (by decide) (fun c_11 => ?_) (fun c_11 => ?_)
  · skip
    have c_11 := mt (nI_eq0 (by omega)).mpr c_11
    have hsa : ni + no + 1 = bnW v (ni + no) := by rw [bnW, if_neg c_11]
    refine lv_iload_n hx hb dX4_bounds_19 rfl (lv_at hl 0 rfl) ?_
    refine lv_iconst (v := nI 1) hx hb dX4_bounds_20 (by decide) ?_
    refine lv_iadd hx hb dX4_bounds_21 ?_
    refine k_ei (y := nI (ni + no + 1)) (nI_add _ _) ?_
    exact lp_22 (ni + no + 1) hsa _ _ hP hD hS ls (lv_sub hl [1, 2, 0] rfl)
  · skip
    have c_11 := (nI_eq0 (by omega)).mp c_11
    have hsa : ni + no = bnW v (ni + no) := by rw [bnW, if_pos c_11]
    refine lv_iload_n hx hb dX4_bounds_15 rfl (lv_at hl 0 rfl) ?_
    refine lv_goto (tgt := 22) hx hb dX4_bounds_16 (by decide) ?_
    exact lp_22 (ni + no) hsa _ _ hP hD hS ls (lv_sub hl [1, 2, 0] rfl)
theorem iw_X4_determinant_X4 : ∀ w ∈ wsX40, w ∈ wsX4_determinant := fun w h => List.mem_cons_of_mem _ (List.mem_append_right _ h)
theorem fm_X4_determinant_70 : Cond.fieldLink RX4 70 "EdgeBenchModel" "wide" "I" ∈ wsX4_determinant := List.mem_of_getElem? (i := 1) rfl
set_option maxHeartbeats 20000000 in
set_option maxRecDepth 100000 in
theorem c_X4_det0 (l : Launch) (g : Gt) (md : Nat → Nat) (xt : Int32) (mi : Nat) (mo : Nat) (mw : Nat) (ni : Nat) (no : Nat) (ns : Nat) (nb : Nat) (wd : Nat) (tp : Int64) (bl : Int64) (wt : Int64) (wb : Int64) (bd : Nat → Int64) (ch : Nat → Nat) (row : Nat) (ot : Int32) (hr : row + 0 + 1 = wd) (hwd : wd ≤ 5) (hch : ∀ j : Nat, j + 1 < wd → ch j < 17) : CL l yX4_determinant wsX4_determinant { frames := 0, cells := 0, slots := 0, locals := 0 } g [.ref (md 0), .int (nI row), .int (ot)] [(md 0, .inr (4, [.int (xt), .int (nI mi), .int (nI mo), .int (nI mw), .ref (md 1), .ref (md 2), .ref (md 3), .int (nI ni), .int (nI no), .ref (md 4), .ref (md 5), .ref (md 6), .int (nI ns), .ref (md 7), .ref (md 8), .int (nI nb), .int (nI wd), .ref (md 9), .long (tp), .long (bl), .long (wt), .long (wb)])), (md 7, aJ g 85 bd), (md 9, aI g 5 (fun j => nI (ch j)))] (fun zr (zu : Unit) => zr = dtF bd ch wd 0 row ot) (fun (zu : Unit) => [(md 0, .inr (4, [.int (xt), .int (nI mi), .int (nI mo), .int (nI mw), .ref (md 1), .ref (md 2), .ref (md 3), .int (nI ni), .int (nI no), .ref (md 4), .ref (md 5), .ref (md 6), .int (nI ns), .ref (md 7), .ref (md 8), .int (nI nb), .int (nI wd), .ref (md 9), .long (tp), .long (bl), .long (wt), .long (wb)])), (md 7, aJ g 85 bd), (md 9, aI g 5 (fun j => nI (ch j)))]) 0 0 := by
  refine ent_l (cc := cX4_determinant) (maxL := 9) (by decide) rfl (Nat.le_of_ble_eq_true rfl) ?_
  intro p e s m below meth c A args Q hE ret ls hl
  obtain ⟨hx, hb, hml, hown, hts, hnm, hA, hP, hD, hK, hN⟩ := hE
  have hS : va_S A s.heap s.heap [] := va_S.rf
  have hl : lv_has ls 9 [(0, .ref (md 0)), (1, .int (nI row)), (2, .int (ot))] := hl
  have hP : va_P g.1 vwCl [(md 0, .inr (4, [.int (xt), .int (nI mi), .int (nI mo), .int (nI mw), .ref (md 1), .ref (md 2), .ref (md 3), .int (nI ni), .int (nI no), .ref (md 4), .ref (md 5), .ref (md 6), .int (nI ns), .ref (md 7), .ref (md 8), .int (nI nb), .int (nI wd), .ref (md 9), .long (tp), .long (bl), .long (wt), .long (wb)])), (md 7, aJ g 85 bd), (md 9, aI g 5 (fun j => nI (ch j)))] s.heap := hP
  refine lv_iload_n hx hb dX4_determinant_0 rfl (lv_at hl 1 rfl) ?_
  refine lv_aload_n hx hb dX4_determinant_1 rfl (lv_at hl 0 rfl) ?_
  refine k_get hx hb hts hown hK hP iw_X4_determinant_X4 rfl 0 16 fm_X4_determinant_70 (by decide) rfl rfl dX4_determinant_2 ?_
  refine lv_iconst (v := nI 1) hx hb dX4_determinant_5 (by decide) ?_
  refine lv_isub hx hb dX4_determinant_6 ?_
  refine k_ei (y := nI (wd - 1)) (pk_sub (by omega)) ?_
  refine lv_icmp_ne (tgt := 12) hx hb dX4_determinant_7 (by decide) (fun c_1 => ?_) (fun c_1 => ?_)
  · skip
    have c_1 := mt (nI_eq (by omega) (by omega)).mpr c_1
    omega
  · skip
    have c_1 := (nI_eq (by omega) (by omega)).mp c_1
    refine lv_lconst (v := 1) hx hb dX4_determinant_10 (by decide) ?_
    exact ret dX4_determinant_11 () (rfl) hP hD hS
theorem fm_X4_determinant_37 : Cond.fieldLink RX4 37 "EdgeBenchModel" "bound" "[J" ∈ wsX4_determinant := List.mem_of_getElem? (i := 2) rfl
theorem fm_X4_determinant_43 : Cond.fieldLink RX4 43 "EdgeBenchModel" "chosen" "[I" ∈ wsX4_determinant := List.mem_of_getElem? (i := 3) rfl
theorem hdn_X4_determinant : yX4_determinant.cls ≠ "java/lang/invoke/MethodHandle" ∧ yX4_determinant.cls ≠ "java/lang/invoke/VarHandle" ∧ (parseMethodDescriptor yX4_determinant.desc).map (fun d => d.parameters.length) = some 2 := by decide +kernel
theorem cw_X4_determinant_91_0_0 {R : Room} {s : State} {args : Array Value} (hts : ∀ w ∈ wsX4_determinant, w.before args s = true) (hN : nsW s) (hR : 0 + 1 ≤ R.frames ∧ 8 + (9 + 11) + 0 ≤ R.locals) : CallW R s args RX4 RX4 91 yX4_determinant cX4_determinant 9 (some .long) wsX4_determinant { frames := 0, cells := 0, slots := 0, locals := 0 } 0 0 2 := cwV 2 hts gX4_determinant_X4_determinant rfl rfl rfl ⟨rfl, hdn_X4_determinant⟩ hR
set_option maxHeartbeats 20000000 in
set_option maxRecDepth 100000 in
theorem c_X4_det1 (l : Launch) (g : Gt) (md : Nat → Nat) (xt : Int32) (mi : Nat) (mo : Nat) (mw : Nat) (ni : Nat) (no : Nat) (ns : Nat) (nb : Nat) (wd : Nat) (tp : Int64) (bl : Int64) (wt : Int64) (wb : Int64) (bd : Nat → Int64) (ch : Nat → Nat) (row : Nat) (ot : Int32) (hr : row + 1 + 1 = wd) (hwd : wd ≤ 5) (hch : ∀ j : Nat, j + 1 < wd → ch j < 17) : CL l yX4_determinant wsX4_determinant { frames := 1, cells := 0, slots := 0, locals := 28 } g [.ref (md 0), .int (nI row), .int (ot)] [(md 0, .inr (4, [.int (xt), .int (nI mi), .int (nI mo), .int (nI mw), .ref (md 1), .ref (md 2), .ref (md 3), .int (nI ni), .int (nI no), .ref (md 4), .ref (md 5), .ref (md 6), .int (nI ns), .ref (md 7), .ref (md 8), .int (nI nb), .int (nI wd), .ref (md 9), .long (tp), .long (bl), .long (wt), .long (wb)])), (md 7, aJ g 85 bd), (md 9, aI g 5 (fun j => nI (ch j)))] (fun zr (zu : Unit) => zr = dtF bd ch wd 1 row ot) (fun (zu : Unit) => [(md 0, .inr (4, [.int (xt), .int (nI mi), .int (nI mo), .int (nI mw), .ref (md 1), .ref (md 2), .ref (md 3), .int (nI ni), .int (nI no), .ref (md 4), .ref (md 5), .ref (md 6), .int (nI ns), .ref (md 7), .ref (md 8), .int (nI nb), .int (nI wd), .ref (md 9), .long (tp), .long (bl), .long (wt), .long (wb)])), (md 7, aJ g 85 bd), (md 9, aI g 5 (fun j => nI (ch j)))]) 0 0 := by
  refine ent_l (cc := cX4_determinant) (maxL := 9) (by decide) rfl (Nat.le_of_ble_eq_true rfl) ?_
  intro p e s m below meth c A args Q hE ret ls hl
  obtain ⟨hx, hb, hml, hown, hts, hnm, hA, hP, hD, hK, hN⟩ := hE
  have hS : va_S A s.heap s.heap [] := va_S.rf
  have hl : lv_has ls 9 [(0, .ref (md 0)), (1, .int (nI row)), (2, .int (ot))] := hl
  have hP : va_P g.1 vwCl [(md 0, .inr (4, [.int (xt), .int (nI mi), .int (nI mo), .int (nI mw), .ref (md 1), .ref (md 2), .ref (md 3), .int (nI ni), .int (nI no), .ref (md 4), .ref (md 5), .ref (md 6), .int (nI ns), .ref (md 7), .ref (md 8), .int (nI nb), .int (nI wd), .ref (md 9), .long (tp), .long (bl), .long (wt), .long (wb)])), (md 7, aJ g 85 bd), (md 9, aI g 5 (fun j => nI (ch j)))] s.heap := hP
  have hcr := hch row (by omega)
  refine lv_iload_n hx hb dX4_determinant_0 rfl (lv_at hl 1 rfl) ?_
  refine lv_aload_n hx hb dX4_determinant_1 rfl (lv_at hl 0 rfl) ?_
  refine k_get hx hb hts hown hK hP iw_X4_determinant_X4 rfl 0 16 fm_X4_determinant_70 (by decide) rfl rfl dX4_determinant_2 ?_
  refine lv_iconst (v := nI 1) hx hb dX4_determinant_5 (by decide) ?_
  refine lv_isub hx hb dX4_determinant_6 ?_
  refine k_ei (y := nI (wd - 1)) (pk_sub (by omega)) ?_
  refine lv_icmp_ne (tgt := 12) hx hb dX4_determinant_7 (by decide) (fun c_1 => ?_) (fun c_1 => ?_)
  · skip
    have c_1 := mt (nI_eq (by omega) (by omega)).mpr c_1
    refine lv_lconst (v := 0) hx hb dX4_determinant_12 (by decide) ?_
    refine lv_lstore_n (lv' := [(3, .long (0)), (0, .ref (md 0)), (1, .int (nI row)), (2, .int (ot))]) hx hb dX4_determinant_13 rfl hl (by decide) rfl (fun ls hl => ?_)
    refine lv_iconst (v := nI 1) hx hb dX4_determinant_14 (by decide) ?_
    refine lv_istore (lv' := [(5, .int (nI 1)), (3, .long (0)), (0, .ref (md 0)), (1, .int (nI row)), (2, .int (ot))]) hx hb dX4_determinant_15 hl (by decide) rfl (fun ls hl => ?_)
    refine lv_iconst (v := nI 0) hx hb dX4_determinant_17 (by decide) ?_
    refine lv_istore (lv' := [(6, .int (nI 0)), (5, .int (nI 1)), (3, .long (0)), (0, .ref (md 0)), (1, .int (nI row)), (2, .int (ot))]) hx hb dX4_determinant_18 hl (by decide) rfl (fun ls hl => ?_)
    have lp_20 : ∀ (n : Nat) (sm : Int64) (sg : Int32) (c1 : Nat), wd - c1 < n → c1 ≤ wd → dtF bd ch wd 1 row ot = (dtS bd ch row (fun z => dtF bd ch wd 0 (row + 1) z) ot c1 (wd - c1) (sm, sg)).1 → ∀ (H : Heap) (locs : List Loc), va_P g.1 vwCl [(md 0, .inr (4, [.int (xt), .int (nI mi), .int (nI mo), .int (nI mw), .ref (md 1), .ref (md 2), .ref (md 3), .int (nI ni), .int (nI no), .ref (md 4), .ref (md 5), .ref (md 6), .int (nI ns), .ref (md 7), .ref (md 8), .int (nI nb), .int (nI wd), .ref (md 9), .long (tp), .long (bl), .long (wt), .long (wb)])), (md 7, aJ g 85 bd), (md 9, aI g 5 (fun j => nI (ch j)))] H → va_D A [(md 0, .inr (4, [.int (xt), .int (nI mi), .int (nI mo), .int (nI mw), .ref (md 1), .ref (md 2), .ref (md 3), .int (nI ni), .int (nI no), .ref (md 4), .ref (md 5), .ref (md 6), .int (nI ns), .ref (md 7), .ref (md 8), .int (nI nb), .int (nI wd), .ref (md 9), .long (tp), .long (bl), .long (wt), .long (wb)])), (md 7, aJ g 85 bd), (md 9, aI g 5 (fun j => nI (ch j)))] → va_S A s.heap H locs → ∀ ls : Array Slot, lv_has ls 9 [(0, .ref (md 0)), (1, .int (nI row)), (2, .int (ot)), (3, .long (sm)), (5, .int (sg)), (6, .int (nI c1))] → W p l e { frames := 1, cells := 0, slots := 0, locals := 28 } s m args below meth c H locs 0 0 Q (F0 m 20 ls []) := by
      intro n
      induction n with
      | zero =>
        intro sm sg c1 hms
        omega
      | succ n ih_20 =>
        intro sm sg c1 hms_20 hc1 hv H locs hP hD hS ls hl
        refine lv_iload hx hb dX4_determinant_20 (lv_at hl 5 rfl) ?_
        refine lv_aload_n hx hb dX4_determinant_22 rfl (lv_at hl 0 rfl) ?_
        refine k_get hx hb hts hown hK hP iw_X4_determinant_X4 rfl 0 16 fm_X4_determinant_70 (by decide) rfl rfl dX4_determinant_23 ?_
        refine lv_icmp_ge (tgt := 101) hx hb dX4_determinant_26 (by decide) (fun c_2 => ?_) (fun c_2 => ?_)
        · skip
          have c_2 := (nI_leI (by omega) (by omega)).mp c_2
          refine lv_lload_n hx hb dX4_determinant_101 rfl (lv_at hl 3 rfl) ?_
          exact ret dX4_determinant_102 () (by rw [hv, show wd - c1 = 0 by omega]; rfl) hP hD hS
        · skip
          have c_2 := mt (nI_leI (by omega) (by omega)).mpr c_2
          refine lv_iload_n hx hb dX4_determinant_29 rfl (lv_at hl 2 rfl) ?_
          refine lv_iload hx hb dX4_determinant_30 (lv_at hl 5 rfl) ?_
          refine lv_ishr hx hb dX4_determinant_32 ?_
          refine lv_iconst (v := nI 1) hx hb dX4_determinant_33 (by decide) ?_
          refine lv_iand hx hb dX4_determinant_34 ?_
          refine lv_iconst (v := nI 1) hx hb dX4_determinant_35 (by decide) ?_
          refine lv_icmp_ne (tgt := 42) hx hb dX4_determinant_36 (by decide) (fun c_3 => ?_) (fun c_3 => ?_)
          · skip
            have hbt := c_3
            refine lv_aload_n hx hb dX4_determinant_42 rfl (lv_at hl 0 rfl) ?_
            refine k_get hx hb hts hown hK hP iw_X4_determinant_X4 rfl 0 13 fm_X4_determinant_37 (by decide) rfl rfl dX4_determinant_43 ?_
            refine lv_iconst (v := nI 5) hx hb dX4_determinant_46 (by decide) ?_
            refine lv_aload_n hx hb dX4_determinant_47 rfl (lv_at hl 0 rfl) ?_
            refine k_get hx hb hts hown hK hP iw_X4_determinant_X4 rfl 0 17 fm_X4_determinant_43 (by decide) rfl rfl dX4_determinant_48 ?_
            refine lv_iload_n hx hb dX4_determinant_51 rfl (lv_at hl 1 rfl) ?_
            refine k_iald hx hb hK hP 2 rfl (by omega) (by omega) dX4_determinant_52 ?_
            refine k_ei (y := nI (ch row)) (rfl) ?_
            refine lv_imul hx hb dX4_determinant_53 ?_
            refine k_ei (y := nI ((ch row) * 5)) ((pk_mul _ _).trans (congrArg nI (Nat.mul_comm _ _))) ?_
            refine lv_iload hx hb dX4_determinant_54 (lv_at hl 5 rfl) ?_
            refine lv_iadd hx hb dX4_determinant_56 ?_
            refine k_ei (y := nI ((ch row) * 5 + c1)) (nI_add _ _) ?_
            refine k_lald hx hb hK hP 1 rfl (by omega) (by omega) dX4_determinant_57 ?_
            refine lv_lstore (lv' := [(7, .long (bd ((ch row) * 5 + c1))), (0, .ref (md 0)), (1, .int (nI row)), (2, .int (ot)), (3, .long (sm)), (5, .int (sg)), (6, .int (nI c1))]) hx hb dX4_determinant_58 hl (by decide) rfl (fun ls hl => ?_)
            refine lv_lload hx hb dX4_determinant_60 (lv_at hl 0 rfl) ?_
            refine lv_lconst (v := 0) hx hb dX4_determinant_62 (by decide) ?_
            refine W.lcmp hx hb dX4_determinant_63 ?_
            refine lv_if_eq (tgt := 90) hx hb dX4_determinant_64 (by decide) (fun c_4 => ?_) (fun c_4 => ?_)
            · skip
              have c_4 := (lc_eq _ _).mp c_4
              have hv2 : dtF bd ch wd 1 row ot = (dtS bd ch row (fun z => dtF bd ch wd 0 (row + 1) z) ot (c1 + 1) (wd - (c1 + 1)) (sm, -sg)).1 := by rw [hv, show wd - c1 = (wd - (c1 + 1)) + 1 by omega, dtS, dtP, if_neg hbt, if_pos c_4]
              refine lv_iload hx hb dX4_determinant_90 (lv_at hl 5 rfl) ?_
              refine lv_ineg hx hb dX4_determinant_92 ?_
              refine lv_istore (lv' := [(5, .int (-sg)), (7, .long (bd ((ch row) * 5 + c1))), (0, .ref (md 0)), (1, .int (nI row)), (2, .int (ot)), (3, .long (sm)), (6, .int (nI c1))]) hx hb dX4_determinant_93 hl (by decide) rfl (fun ls hl => ?_)
              refine lv_iinc (v := nI (c1 + 1)) (lv' := [(6, .int (nI (c1 + 1))), (5, .int (-sg)), (7, .long (bd ((ch row) * 5 + c1))), (0, .ref (md 0)), (1, .int (nI row)), (2, .int (ot)), (3, .long (sm))]) hx hb dX4_determinant_95 hl (k := 6) rfl (nI_inc1 c1) (by decide) rfl (fun ls hl => ?_)
              refine lv_goto (tgt := 20) hx hb dX4_determinant_98 (by decide) ?_
              exact ih_20 sm (-sg) (c1 + 1) (by omega) (by omega) hv2 _ _ hP hD hS ls (lv_sub hl [3, 4, 5, 6, 1, 0] rfl)
            · skip
              have c_4 := mt (lc_eq _ _).mpr c_4
              have hv2 : dtF bd ch wd 1 row ot = (dtS bd ch row (fun z => dtF bd ch wd 0 (row + 1) z) ot (c1 + 1) (wd - (c1 + 1)) (sm + sg.toInt64 * bd (ch row * 5 + c1) * dtF bd ch wd 0 (row + 1) (ot ||| (nI 1 <<< (nI c1 &&& 31))), -sg)).1 := by rw [hv, show wd - c1 = (wd - (c1 + 1)) + 1 by omega, dtS, dtP, if_neg hbt, if_neg c_4]
              refine lv_lload_n hx hb dX4_determinant_67 rfl (lv_at hl 4 rfl) ?_
              refine lv_iload hx hb dX4_determinant_68 (lv_at hl 5 rfl) ?_
              refine lv_i2l hx hb dX4_determinant_70 rfl ?_
              refine lv_lload hx hb dX4_determinant_71 (lv_at hl 0 rfl) ?_
              refine lv_lmul hx hb dX4_determinant_73 ?_
              refine lv_aload_n hx hb dX4_determinant_74 rfl (lv_at hl 1 rfl) ?_
              refine lv_iload_n hx hb dX4_determinant_75 rfl (lv_at hl 2 rfl) ?_
              refine lv_iconst (v := nI 1) hx hb dX4_determinant_76 (by decide) ?_
              refine lv_iadd hx hb dX4_determinant_77 ?_
              refine k_ei (y := nI (row + 1)) (nI_add _ _) ?_
              refine lv_iload_n hx hb dX4_determinant_78 rfl (lv_at hl 3 rfl) ?_
              refine lv_iconst (v := nI 1) hx hb dX4_determinant_79 (by decide) ?_
              refine lv_iload hx hb dX4_determinant_80 (lv_at hl 6 rfl) ?_
              refine lv_ishl hx hb dX4_determinant_82 ?_
              refine lv_ior hx hb dX4_determinant_83 ?_
              refine go_l (wc := [(md 0, .inr (4, [.int (xt), .int (nI mi), .int (nI mo), .int (nI mw), .ref (md 1), .ref (md 2), .ref (md 3), .int (nI ni), .int (nI no), .ref (md 4), .ref (md 5), .ref (md 6), .int (nI ns), .ref (md 7), .ref (md 8), .int (nI nb), .int (nI wd), .ref (md 9), .long (tp), .long (bl), .long (wt), .long (wb)])), (md 7, aJ g 85 bd), (md 9, aI g 5 (fun j => nI (ch j)))]) (wr := []) hP hD hS hA [0, 1, 2] [] rfl rfl rfl rfl (by decide) (fun hPc hDc => rn_V (As := [.int (nI (row + 1)), .int (ot ||| ((nI 1) <<< ((nI c1) &&& 31)))]) (rest := [.long (sg.toInt64 * (bd ((ch row) * 5 + c1))), .long (sm)]) ⟨hx, hb, hml, hown, hts⟩ ((c_X4_det0 l g md xt mi mo mw ni no ns nb wd tp bl wt wb bd ch (row + 1) (ot ||| ((nI 1) <<< ((nI c1) &&& 31))) (by omega) (by omega) hch) _) (cw_X4_determinant_91_0_0 hts hN ⟨Nat.le_of_ble_eq_true rfl, Nat.le_of_ble_eq_true rfl⟩) hK hN hPc hDc 0 rfl rfl rfl rfl hl.1 (Nat.le_of_ble_eq_true rfl) dX4_determinant_84 ⟨Nat.le_of_ble_eq_true rfl, Nat.le_of_ble_eq_true rfl⟩) ?_
              intro r_5 u_6 H locs h_7 hP hD hS
              have hP : va_P g.1 vwCl [(md 0, .inr (4, [.int (xt), .int (nI mi), .int (nI mo), .int (nI mw), .ref (md 1), .ref (md 2), .ref (md 3), .int (nI ni), .int (nI no), .ref (md 4), .ref (md 5), .ref (md 6), .int (nI ns), .ref (md 7), .ref (md 8), .int (nI nb), .int (nI wd), .ref (md 9), .long (tp), .long (bl), .long (wt), .long (wb)])), (md 7, aJ g 85 bd), (md 9, aI g 5 (fun j => nI (ch j)))] H := hP.sub [0, 1, 2] rfl
              have hD : va_D A [(md 0, .inr (4, [.int (xt), .int (nI mi), .int (nI mo), .int (nI mw), .ref (md 1), .ref (md 2), .ref (md 3), .int (nI ni), .int (nI no), .ref (md 4), .ref (md 5), .ref (md 6), .int (nI ns), .ref (md 7), .ref (md 8), .int (nI nb), .int (nI wd), .ref (md 9), .long (tp), .long (bl), .long (wt), .long (wb)])), (md 7, aJ g 85 bd), (md 9, aI g 5 (fun j => nI (ch j)))] := hD.sub [0, 1, 2] rfl rfl
              have h_7 : r_5 = dtF bd ch wd 0 (row + 1) (ot ||| ((nI 1) <<< ((nI c1) &&& 31))) := h_7
              subst h_7
              refine lv_lmul hx hb dX4_determinant_87 ?_
              refine lv_ladd hx hb dX4_determinant_88 ?_
              refine lv_lstore_n (lv' := [(3, .long (sm + ((sg.toInt64 * (bd ((ch row) * 5 + c1))) * (dtF bd ch wd 0 (row + 1) (ot ||| ((nI 1) <<< ((nI c1) &&& 31))))))), (7, .long (bd ((ch row) * 5 + c1))), (0, .ref (md 0)), (1, .int (nI row)), (2, .int (ot)), (5, .int (sg)), (6, .int (nI c1))]) hx hb dX4_determinant_89 rfl hl (by decide) rfl (fun ls hl => ?_)
              refine lv_iload hx hb dX4_determinant_90 (lv_at hl 5 rfl) ?_
              refine lv_ineg hx hb dX4_determinant_92 ?_
              refine lv_istore (lv' := [(5, .int (-sg)), (3, .long (sm + ((sg.toInt64 * (bd ((ch row) * 5 + c1))) * (dtF bd ch wd 0 (row + 1) (ot ||| ((nI 1) <<< ((nI c1) &&& 31))))))), (7, .long (bd ((ch row) * 5 + c1))), (0, .ref (md 0)), (1, .int (nI row)), (2, .int (ot)), (6, .int (nI c1))]) hx hb dX4_determinant_93 hl (by decide) rfl (fun ls hl => ?_)
              refine lv_iinc (v := nI (c1 + 1)) (lv' := [(6, .int (nI (c1 + 1))), (5, .int (-sg)), (3, .long (sm + ((sg.toInt64 * (bd ((ch row) * 5 + c1))) * (dtF bd ch wd 0 (row + 1) (ot ||| ((nI 1) <<< ((nI c1) &&& 31))))))), (7, .long (bd ((ch row) * 5 + c1))), (0, .ref (md 0)), (1, .int (nI row)), (2, .int (ot))]) hx hb dX4_determinant_95 hl (k := 6) rfl (nI_inc1 c1) (by decide) rfl (fun ls hl => ?_)
              refine lv_goto (tgt := 20) hx hb dX4_determinant_98 (by decide) ?_
              exact ih_20 (sm + ((sg.toInt64 * (bd ((ch row) * 5 + c1))) * (dtF bd ch wd 0 (row + 1) (ot ||| ((nI 1) <<< ((nI c1) &&& 31)))))) (-sg) (c1 + 1) (by omega) (by omega) hv2 _ _ hP hD hS ls (lv_sub hl [4, 5, 6, 2, 1, 0] rfl)
          · skip
            have hv2 : dtF bd ch wd 1 row ot = (dtS bd ch row (fun z => dtF bd ch wd 0 (row + 1) z) ot (c1 + 1) (wd - (c1 + 1)) (sm, sg)).1 := by rw [hv, show wd - c1 = (wd - (c1 + 1)) + 1 by omega, dtS, dtP, if_pos c_3]
            refine lv_goto (tgt := 95) hx hb dX4_determinant_39 (by decide) ?_
            refine lv_iinc (v := nI (c1 + 1)) (lv' := [(6, .int (nI (c1 + 1))), (0, .ref (md 0)), (1, .int (nI row)), (2, .int (ot)), (3, .long (sm)), (5, .int (sg))]) hx hb dX4_determinant_95 hl (k := 5) rfl (nI_inc1 c1) (by decide) rfl (fun ls hl => ?_)
            refine lv_goto (tgt := 20) hx hb dX4_determinant_98 (by decide) ?_
            exact ih_20 sm sg (c1 + 1) (by omega) (by omega) hv2 _ _ hP hD hS ls (lv_sub hl [1, 2, 3, 4, 5, 0] rfl)
    exact lp_20 (wd - 0 + 1) 0 (nI 1) 0 (by omega) (by omega) rfl _ _ hP hD hS ls (lv_sub hl [3, 4, 5, 2, 1, 0] rfl)
  · skip
    have c_1 := (nI_eq (by omega) (by omega)).mp c_1
    omega
theorem cw_X4_determinant_91_1_28 {R : Room} {s : State} {args : Array Value} (hts : ∀ w ∈ wsX4_determinant, w.before args s = true) (hN : nsW s) (hR : 1 + 1 ≤ R.frames ∧ 8 + (9 + 11) + 28 ≤ R.locals) : CallW R s args RX4 RX4 91 yX4_determinant cX4_determinant 9 (some .long) wsX4_determinant { frames := 1, cells := 0, slots := 0, locals := 28 } 0 0 2 := cwV 2 hts gX4_determinant_X4_determinant rfl rfl rfl ⟨rfl, hdn_X4_determinant⟩ hR
set_option maxHeartbeats 20000000 in
set_option maxRecDepth 100000 in
theorem c_X4_det2 (l : Launch) (g : Gt) (md : Nat → Nat) (xt : Int32) (mi : Nat) (mo : Nat) (mw : Nat) (ni : Nat) (no : Nat) (ns : Nat) (nb : Nat) (wd : Nat) (tp : Int64) (bl : Int64) (wt : Int64) (wb : Int64) (bd : Nat → Int64) (ch : Nat → Nat) (row : Nat) (ot : Int32) (hr : row + 2 + 1 = wd) (hwd : wd ≤ 5) (hch : ∀ j : Nat, j + 1 < wd → ch j < 17) : CL l yX4_determinant wsX4_determinant { frames := 2, cells := 0, slots := 0, locals := 56 } g [.ref (md 0), .int (nI row), .int (ot)] [(md 0, .inr (4, [.int (xt), .int (nI mi), .int (nI mo), .int (nI mw), .ref (md 1), .ref (md 2), .ref (md 3), .int (nI ni), .int (nI no), .ref (md 4), .ref (md 5), .ref (md 6), .int (nI ns), .ref (md 7), .ref (md 8), .int (nI nb), .int (nI wd), .ref (md 9), .long (tp), .long (bl), .long (wt), .long (wb)])), (md 7, aJ g 85 bd), (md 9, aI g 5 (fun j => nI (ch j)))] (fun zr (zu : Unit) => zr = dtF bd ch wd 2 row ot) (fun (zu : Unit) => [(md 0, .inr (4, [.int (xt), .int (nI mi), .int (nI mo), .int (nI mw), .ref (md 1), .ref (md 2), .ref (md 3), .int (nI ni), .int (nI no), .ref (md 4), .ref (md 5), .ref (md 6), .int (nI ns), .ref (md 7), .ref (md 8), .int (nI nb), .int (nI wd), .ref (md 9), .long (tp), .long (bl), .long (wt), .long (wb)])), (md 7, aJ g 85 bd), (md 9, aI g 5 (fun j => nI (ch j)))]) 0 0 := by
  refine ent_l (cc := cX4_determinant) (maxL := 9) (by decide) rfl (Nat.le_of_ble_eq_true rfl) ?_
  intro p e s m below meth c A args Q hE ret ls hl
  obtain ⟨hx, hb, hml, hown, hts, hnm, hA, hP, hD, hK, hN⟩ := hE
  have hS : va_S A s.heap s.heap [] := va_S.rf
  have hl : lv_has ls 9 [(0, .ref (md 0)), (1, .int (nI row)), (2, .int (ot))] := hl
  have hP : va_P g.1 vwCl [(md 0, .inr (4, [.int (xt), .int (nI mi), .int (nI mo), .int (nI mw), .ref (md 1), .ref (md 2), .ref (md 3), .int (nI ni), .int (nI no), .ref (md 4), .ref (md 5), .ref (md 6), .int (nI ns), .ref (md 7), .ref (md 8), .int (nI nb), .int (nI wd), .ref (md 9), .long (tp), .long (bl), .long (wt), .long (wb)])), (md 7, aJ g 85 bd), (md 9, aI g 5 (fun j => nI (ch j)))] s.heap := hP
  have hcr := hch row (by omega)
  refine lv_iload_n hx hb dX4_determinant_0 rfl (lv_at hl 1 rfl) ?_
  refine lv_aload_n hx hb dX4_determinant_1 rfl (lv_at hl 0 rfl) ?_
  refine k_get hx hb hts hown hK hP iw_X4_determinant_X4 rfl 0 16 fm_X4_determinant_70 (by decide) rfl rfl dX4_determinant_2 ?_
  refine lv_iconst (v := nI 1) hx hb dX4_determinant_5 (by decide) ?_
  refine lv_isub hx hb dX4_determinant_6 ?_
  refine k_ei (y := nI (wd - 1)) (pk_sub (by omega)) ?_
  refine lv_icmp_ne (tgt := 12) hx hb dX4_determinant_7 (by decide) (fun c_1 => ?_) (fun c_1 => ?_)
  · skip
    have c_1 := mt (nI_eq (by omega) (by omega)).mpr c_1
    refine lv_lconst (v := 0) hx hb dX4_determinant_12 (by decide) ?_
    refine lv_lstore_n (lv' := [(3, .long (0)), (0, .ref (md 0)), (1, .int (nI row)), (2, .int (ot))]) hx hb dX4_determinant_13 rfl hl (by decide) rfl (fun ls hl => ?_)
    refine lv_iconst (v := nI 1) hx hb dX4_determinant_14 (by decide) ?_
    refine lv_istore (lv' := [(5, .int (nI 1)), (3, .long (0)), (0, .ref (md 0)), (1, .int (nI row)), (2, .int (ot))]) hx hb dX4_determinant_15 hl (by decide) rfl (fun ls hl => ?_)
    refine lv_iconst (v := nI 0) hx hb dX4_determinant_17 (by decide) ?_
    refine lv_istore (lv' := [(6, .int (nI 0)), (5, .int (nI 1)), (3, .long (0)), (0, .ref (md 0)), (1, .int (nI row)), (2, .int (ot))]) hx hb dX4_determinant_18 hl (by decide) rfl (fun ls hl => ?_)
    have lp_20 : ∀ (n : Nat) (sm : Int64) (sg : Int32) (c1 : Nat), wd - c1 < n → c1 ≤ wd → dtF bd ch wd 2 row ot = (dtS bd ch row (fun z => dtF bd ch wd 1 (row + 1) z) ot c1 (wd - c1) (sm, sg)).1 → ∀ (H : Heap) (locs : List Loc), va_P g.1 vwCl [(md 0, .inr (4, [.int (xt), .int (nI mi), .int (nI mo), .int (nI mw), .ref (md 1), .ref (md 2), .ref (md 3), .int (nI ni), .int (nI no), .ref (md 4), .ref (md 5), .ref (md 6), .int (nI ns), .ref (md 7), .ref (md 8), .int (nI nb), .int (nI wd), .ref (md 9), .long (tp), .long (bl), .long (wt), .long (wb)])), (md 7, aJ g 85 bd), (md 9, aI g 5 (fun j => nI (ch j)))] H → va_D A [(md 0, .inr (4, [.int (xt), .int (nI mi), .int (nI mo), .int (nI mw), .ref (md 1), .ref (md 2), .ref (md 3), .int (nI ni), .int (nI no), .ref (md 4), .ref (md 5), .ref (md 6), .int (nI ns), .ref (md 7), .ref (md 8), .int (nI nb), .int (nI wd), .ref (md 9), .long (tp), .long (bl), .long (wt), .long (wb)])), (md 7, aJ g 85 bd), (md 9, aI g 5 (fun j => nI (ch j)))] → va_S A s.heap H locs → ∀ ls : Array Slot, lv_has ls 9 [(0, .ref (md 0)), (1, .int (nI row)), (2, .int (ot)), (3, .long (sm)), (5, .int (sg)), (6, .int (nI c1))] → W p l e { frames := 2, cells := 0, slots := 0, locals := 56 } s m args below meth c H locs 0 0 Q (F0 m 20 ls []) := by
      intro n
      induction n with
      | zero =>
        intro sm sg c1 hms
        omega
      | succ n ih_20 =>
        intro sm sg c1 hms_20 hc1 hv H locs hP hD hS ls hl
        refine lv_iload hx hb dX4_determinant_20 (lv_at hl 5 rfl) ?_
        refine lv_aload_n hx hb dX4_determinant_22 rfl (lv_at hl 0 rfl) ?_
        refine k_get hx hb hts hown hK hP iw_X4_determinant_X4 rfl 0 16 fm_X4_determinant_70 (by decide) rfl rfl dX4_determinant_23 ?_
        refine lv_icmp_ge (tgt := 101) hx hb dX4_determinant_26 (by decide) (fun c_2 => ?_) (fun c_2 => ?_)
        · skip
          have c_2 := (nI_leI (by omega) (by omega)).mp c_2
          refine lv_lload_n hx hb dX4_determinant_101 rfl (lv_at hl 3 rfl) ?_
          exact ret dX4_determinant_102 () (by rw [hv, show wd - c1 = 0 by omega]; rfl) hP hD hS
        · skip
          have c_2 := mt (nI_leI (by omega) (by omega)).mpr c_2
          refine lv_iload_n hx hb dX4_determinant_29 rfl (lv_at hl 2 rfl) ?_
          refine lv_iload hx hb dX4_determinant_30 (lv_at hl 5 rfl) ?_
          refine lv_ishr hx hb dX4_determinant_32 ?_
          refine lv_iconst (v := nI 1) hx hb dX4_determinant_33 (by decide) ?_
          refine lv_iand hx hb dX4_determinant_34 ?_
          refine lv_iconst (v := nI 1) hx hb dX4_determinant_35 (by decide) ?_
          refine lv_icmp_ne (tgt := 42) hx hb dX4_determinant_36 (by decide) (fun c_3 => ?_) (fun c_3 => ?_)
          · skip
            have hbt := c_3
            refine lv_aload_n hx hb dX4_determinant_42 rfl (lv_at hl 0 rfl) ?_
            refine k_get hx hb hts hown hK hP iw_X4_determinant_X4 rfl 0 13 fm_X4_determinant_37 (by decide) rfl rfl dX4_determinant_43 ?_
            refine lv_iconst (v := nI 5) hx hb dX4_determinant_46 (by decide) ?_
            refine lv_aload_n hx hb dX4_determinant_47 rfl (lv_at hl 0 rfl) ?_
            refine k_get hx hb hts hown hK hP iw_X4_determinant_X4 rfl 0 17 fm_X4_determinant_43 (by decide) rfl rfl dX4_determinant_48 ?_
            refine lv_iload_n hx hb dX4_determinant_51 rfl (lv_at hl 1 rfl) ?_
            refine k_iald hx hb hK hP 2 rfl (by omega) (by omega) dX4_determinant_52 ?_
            refine k_ei (y := nI (ch row)) (rfl) ?_
            refine lv_imul hx hb dX4_determinant_53 ?_
            refine k_ei (y := nI ((ch row) * 5)) ((pk_mul _ _).trans (congrArg nI (Nat.mul_comm _ _))) ?_
            refine lv_iload hx hb dX4_determinant_54 (lv_at hl 5 rfl) ?_
            refine lv_iadd hx hb dX4_determinant_56 ?_
            refine k_ei (y := nI ((ch row) * 5 + c1)) (nI_add _ _) ?_
            refine k_lald hx hb hK hP 1 rfl (by omega) (by omega) dX4_determinant_57 ?_
            refine lv_lstore (lv' := [(7, .long (bd ((ch row) * 5 + c1))), (0, .ref (md 0)), (1, .int (nI row)), (2, .int (ot)), (3, .long (sm)), (5, .int (sg)), (6, .int (nI c1))]) hx hb dX4_determinant_58 hl (by decide) rfl (fun ls hl => ?_)
            refine lv_lload hx hb dX4_determinant_60 (lv_at hl 0 rfl) ?_
            refine lv_lconst (v := 0) hx hb dX4_determinant_62 (by decide) ?_
            refine W.lcmp hx hb dX4_determinant_63 ?_
            refine lv_if_eq (tgt := 90) hx hb dX4_determinant_64 (by decide) (fun c_4 => ?_) (fun c_4 => ?_)
            · skip
              have c_4 := (lc_eq _ _).mp c_4
              have hv2 : dtF bd ch wd 2 row ot = (dtS bd ch row (fun z => dtF bd ch wd 1 (row + 1) z) ot (c1 + 1) (wd - (c1 + 1)) (sm, -sg)).1 := by rw [hv, show wd - c1 = (wd - (c1 + 1)) + 1 by omega, dtS, dtP, if_neg hbt, if_pos c_4]
              refine lv_iload hx hb dX4_determinant_90 (lv_at hl 5 rfl) ?_
              refine lv_ineg hx hb dX4_determinant_92 ?_
              refine lv_istore (lv' := [(5, .int (-sg)), (7, .long (bd ((ch row) * 5 + c1))), (0, .ref (md 0)), (1, .int (nI row)), (2, .int (ot)), (3, .long (sm)), (6, .int (nI c1))]) hx hb dX4_determinant_93 hl (by decide) rfl (fun ls hl => ?_)
              refine lv_iinc (v := nI (c1 + 1)) (lv' := [(6, .int (nI (c1 + 1))), (5, .int (-sg)), (7, .long (bd ((ch row) * 5 + c1))), (0, .ref (md 0)), (1, .int (nI row)), (2, .int (ot)), (3, .long (sm))]) hx hb dX4_determinant_95 hl (k := 6) rfl (nI_inc1 c1) (by decide) rfl (fun ls hl => ?_)
              refine lv_goto (tgt := 20) hx hb dX4_determinant_98 (by decide) ?_
              exact ih_20 sm (-sg) (c1 + 1) (by omega) (by omega) hv2 _ _ hP hD hS ls (lv_sub hl [3, 4, 5, 6, 1, 0] rfl)
            · skip
              have c_4 := mt (lc_eq _ _).mpr c_4
              have hv2 : dtF bd ch wd 2 row ot = (dtS bd ch row (fun z => dtF bd ch wd 1 (row + 1) z) ot (c1 + 1) (wd - (c1 + 1)) (sm + sg.toInt64 * bd (ch row * 5 + c1) * dtF bd ch wd 1 (row + 1) (ot ||| (nI 1 <<< (nI c1 &&& 31))), -sg)).1 := by rw [hv, show wd - c1 = (wd - (c1 + 1)) + 1 by omega, dtS, dtP, if_neg hbt, if_neg c_4]
              refine lv_lload_n hx hb dX4_determinant_67 rfl (lv_at hl 4 rfl) ?_
              refine lv_iload hx hb dX4_determinant_68 (lv_at hl 5 rfl) ?_
              refine lv_i2l hx hb dX4_determinant_70 rfl ?_
              refine lv_lload hx hb dX4_determinant_71 (lv_at hl 0 rfl) ?_
              refine lv_lmul hx hb dX4_determinant_73 ?_
              refine lv_aload_n hx hb dX4_determinant_74 rfl (lv_at hl 1 rfl) ?_
              refine lv_iload_n hx hb dX4_determinant_75 rfl (lv_at hl 2 rfl) ?_
              refine lv_iconst (v := nI 1) hx hb dX4_determinant_76 (by decide) ?_
              refine lv_iadd hx hb dX4_determinant_77 ?_
              refine k_ei (y := nI (row + 1)) (nI_add _ _) ?_
              refine lv_iload_n hx hb dX4_determinant_78 rfl (lv_at hl 3 rfl) ?_
              refine lv_iconst (v := nI 1) hx hb dX4_determinant_79 (by decide) ?_
              refine lv_iload hx hb dX4_determinant_80 (lv_at hl 6 rfl) ?_
              refine lv_ishl hx hb dX4_determinant_82 ?_
              refine lv_ior hx hb dX4_determinant_83 ?_
              refine go_l (wc := [(md 0, .inr (4, [.int (xt), .int (nI mi), .int (nI mo), .int (nI mw), .ref (md 1), .ref (md 2), .ref (md 3), .int (nI ni), .int (nI no), .ref (md 4), .ref (md 5), .ref (md 6), .int (nI ns), .ref (md 7), .ref (md 8), .int (nI nb), .int (nI wd), .ref (md 9), .long (tp), .long (bl), .long (wt), .long (wb)])), (md 7, aJ g 85 bd), (md 9, aI g 5 (fun j => nI (ch j)))]) (wr := []) hP hD hS hA [0, 1, 2] [] rfl rfl rfl rfl (by decide) (fun hPc hDc => rn_V (As := [.int (nI (row + 1)), .int (ot ||| ((nI 1) <<< ((nI c1) &&& 31)))]) (rest := [.long (sg.toInt64 * (bd ((ch row) * 5 + c1))), .long (sm)]) ⟨hx, hb, hml, hown, hts⟩ ((c_X4_det1 l g md xt mi mo mw ni no ns nb wd tp bl wt wb bd ch (row + 1) (ot ||| ((nI 1) <<< ((nI c1) &&& 31))) (by omega) (by omega) hch) _) (cw_X4_determinant_91_1_28 hts hN ⟨Nat.le_of_ble_eq_true rfl, Nat.le_of_ble_eq_true rfl⟩) hK hN hPc hDc 0 rfl rfl rfl rfl hl.1 (Nat.le_of_ble_eq_true rfl) dX4_determinant_84 ⟨Nat.le_of_ble_eq_true rfl, Nat.le_of_ble_eq_true rfl⟩) ?_
              intro r_5 u_6 H locs h_7 hP hD hS
              have hP : va_P g.1 vwCl [(md 0, .inr (4, [.int (xt), .int (nI mi), .int (nI mo), .int (nI mw), .ref (md 1), .ref (md 2), .ref (md 3), .int (nI ni), .int (nI no), .ref (md 4), .ref (md 5), .ref (md 6), .int (nI ns), .ref (md 7), .ref (md 8), .int (nI nb), .int (nI wd), .ref (md 9), .long (tp), .long (bl), .long (wt), .long (wb)])), (md 7, aJ g 85 bd), (md 9, aI g 5 (fun j => nI (ch j)))] H := hP.sub [0, 1, 2] rfl
              have hD : va_D A [(md 0, .inr (4, [.int (xt), .int (nI mi), .int (nI mo), .int (nI mw), .ref (md 1), .ref (md 2), .ref (md 3), .int (nI ni), .int (nI no), .ref (md 4), .ref (md 5), .ref (md 6), .int (nI ns), .ref (md 7), .ref (md 8), .int (nI nb), .int (nI wd), .ref (md 9), .long (tp), .long (bl), .long (wt), .long (wb)])), (md 7, aJ g 85 bd), (md 9, aI g 5 (fun j => nI (ch j)))] := hD.sub [0, 1, 2] rfl rfl
              have h_7 : r_5 = dtF bd ch wd 1 (row + 1) (ot ||| ((nI 1) <<< ((nI c1) &&& 31))) := h_7
              subst h_7
              refine lv_lmul hx hb dX4_determinant_87 ?_
              refine lv_ladd hx hb dX4_determinant_88 ?_
              refine lv_lstore_n (lv' := [(3, .long (sm + ((sg.toInt64 * (bd ((ch row) * 5 + c1))) * (dtF bd ch wd 1 (row + 1) (ot ||| ((nI 1) <<< ((nI c1) &&& 31))))))), (7, .long (bd ((ch row) * 5 + c1))), (0, .ref (md 0)), (1, .int (nI row)), (2, .int (ot)), (5, .int (sg)), (6, .int (nI c1))]) hx hb dX4_determinant_89 rfl hl (by decide) rfl (fun ls hl => ?_)
              refine lv_iload hx hb dX4_determinant_90 (lv_at hl 5 rfl) ?_
              refine lv_ineg hx hb dX4_determinant_92 ?_
              refine lv_istore (lv' := [(5, .int (-sg)), (3, .long (sm + ((sg.toInt64 * (bd ((ch row) * 5 + c1))) * (dtF bd ch wd 1 (row + 1) (ot ||| ((nI 1) <<< ((nI c1) &&& 31))))))), (7, .long (bd ((ch row) * 5 + c1))), (0, .ref (md 0)), (1, .int (nI row)), (2, .int (ot)), (6, .int (nI c1))]) hx hb dX4_determinant_93 hl (by decide) rfl (fun ls hl => ?_)
              refine lv_iinc (v := nI (c1 + 1)) (lv' := [(6, .int (nI (c1 + 1))), (5, .int (-sg)), (3, .long (sm + ((sg.toInt64 * (bd ((ch row) * 5 + c1))) * (dtF bd ch wd 1 (row + 1) (ot ||| ((nI 1) <<< ((nI c1) &&& 31))))))), (7, .long (bd ((ch row) * 5 + c1))), (0, .ref (md 0)), (1, .int (nI row)), (2, .int (ot))]) hx hb dX4_determinant_95 hl (k := 6) rfl (nI_inc1 c1) (by decide) rfl (fun ls hl => ?_)
              refine lv_goto (tgt := 20) hx hb dX4_determinant_98 (by decide) ?_
              exact ih_20 (sm + ((sg.toInt64 * (bd ((ch row) * 5 + c1))) * (dtF bd ch wd 1 (row + 1) (ot ||| ((nI 1) <<< ((nI c1) &&& 31)))))) (-sg) (c1 + 1) (by omega) (by omega) hv2 _ _ hP hD hS ls (lv_sub hl [4, 5, 6, 2, 1, 0] rfl)
          · skip
            have hv2 : dtF bd ch wd 2 row ot = (dtS bd ch row (fun z => dtF bd ch wd 1 (row + 1) z) ot (c1 + 1) (wd - (c1 + 1)) (sm, sg)).1 := by rw [hv, show wd - c1 = (wd - (c1 + 1)) + 1 by omega, dtS, dtP, if_pos c_3]
            refine lv_goto (tgt := 95) hx hb dX4_determinant_39 (by decide) ?_
            refine lv_iinc (v := nI (c1 + 1)) (lv' := [(6, .int (nI (c1 + 1))), (0, .ref (md 0)), (1, .int (nI row)), (2, .int (ot)), (3, .long (sm)), (5, .int (sg))]) hx hb dX4_determinant_95 hl (k := 5) rfl (nI_inc1 c1) (by decide) rfl (fun ls hl => ?_)
            refine lv_goto (tgt := 20) hx hb dX4_determinant_98 (by decide) ?_
            exact ih_20 sm sg (c1 + 1) (by omega) (by omega) hv2 _ _ hP hD hS ls (lv_sub hl [1, 2, 3, 4, 5, 0] rfl)
    exact lp_20 (wd - 0 + 1) 0 (nI 1) 0 (by omega) (by omega) rfl _ _ hP hD hS ls (lv_sub hl [3, 4, 5, 2, 1, 0] rfl)
  · skip
    have c_1 := (nI_eq (by omega) (by omega)).mp c_1
    omega
theorem cw_X4_determinant_91_2_56 {R : Room} {s : State} {args : Array Value} (hts : ∀ w ∈ wsX4_determinant, w.before args s = true) (hN : nsW s) (hR : 2 + 1 ≤ R.frames ∧ 8 + (9 + 11) + 56 ≤ R.locals) : CallW R s args RX4 RX4 91 yX4_determinant cX4_determinant 9 (some .long) wsX4_determinant { frames := 2, cells := 0, slots := 0, locals := 56 } 0 0 2 := cwV 2 hts gX4_determinant_X4_determinant rfl rfl rfl ⟨rfl, hdn_X4_determinant⟩ hR
set_option maxHeartbeats 20000000 in
set_option maxRecDepth 100000 in
theorem c_X4_det3 (l : Launch) (g : Gt) (md : Nat → Nat) (xt : Int32) (mi : Nat) (mo : Nat) (mw : Nat) (ni : Nat) (no : Nat) (ns : Nat) (nb : Nat) (wd : Nat) (tp : Int64) (bl : Int64) (wt : Int64) (wb : Int64) (bd : Nat → Int64) (ch : Nat → Nat) (row : Nat) (ot : Int32) (hr : row + 3 + 1 = wd) (hwd : wd ≤ 5) (hch : ∀ j : Nat, j + 1 < wd → ch j < 17) : CL l yX4_determinant wsX4_determinant { frames := 3, cells := 0, slots := 0, locals := 84 } g [.ref (md 0), .int (nI row), .int (ot)] [(md 0, .inr (4, [.int (xt), .int (nI mi), .int (nI mo), .int (nI mw), .ref (md 1), .ref (md 2), .ref (md 3), .int (nI ni), .int (nI no), .ref (md 4), .ref (md 5), .ref (md 6), .int (nI ns), .ref (md 7), .ref (md 8), .int (nI nb), .int (nI wd), .ref (md 9), .long (tp), .long (bl), .long (wt), .long (wb)])), (md 7, aJ g 85 bd), (md 9, aI g 5 (fun j => nI (ch j)))] (fun zr (zu : Unit) => zr = dtF bd ch wd 3 row ot) (fun (zu : Unit) => [(md 0, .inr (4, [.int (xt), .int (nI mi), .int (nI mo), .int (nI mw), .ref (md 1), .ref (md 2), .ref (md 3), .int (nI ni), .int (nI no), .ref (md 4), .ref (md 5), .ref (md 6), .int (nI ns), .ref (md 7), .ref (md 8), .int (nI nb), .int (nI wd), .ref (md 9), .long (tp), .long (bl), .long (wt), .long (wb)])), (md 7, aJ g 85 bd), (md 9, aI g 5 (fun j => nI (ch j)))]) 0 0 := by
  refine ent_l (cc := cX4_determinant) (maxL := 9) (by decide) rfl (Nat.le_of_ble_eq_true rfl) ?_
  intro p e s m below meth c A args Q hE ret ls hl
  obtain ⟨hx, hb, hml, hown, hts, hnm, hA, hP, hD, hK, hN⟩ := hE
  have hS : va_S A s.heap s.heap [] := va_S.rf
  have hl : lv_has ls 9 [(0, .ref (md 0)), (1, .int (nI row)), (2, .int (ot))] := hl
  have hP : va_P g.1 vwCl [(md 0, .inr (4, [.int (xt), .int (nI mi), .int (nI mo), .int (nI mw), .ref (md 1), .ref (md 2), .ref (md 3), .int (nI ni), .int (nI no), .ref (md 4), .ref (md 5), .ref (md 6), .int (nI ns), .ref (md 7), .ref (md 8), .int (nI nb), .int (nI wd), .ref (md 9), .long (tp), .long (bl), .long (wt), .long (wb)])), (md 7, aJ g 85 bd), (md 9, aI g 5 (fun j => nI (ch j)))] s.heap := hP
  have hcr := hch row (by omega)
  refine lv_iload_n hx hb dX4_determinant_0 rfl (lv_at hl 1 rfl) ?_
  refine lv_aload_n hx hb dX4_determinant_1 rfl (lv_at hl 0 rfl) ?_
  refine k_get hx hb hts hown hK hP iw_X4_determinant_X4 rfl 0 16 fm_X4_determinant_70 (by decide) rfl rfl dX4_determinant_2 ?_
  refine lv_iconst (v := nI 1) hx hb dX4_determinant_5 (by decide) ?_
  refine lv_isub hx hb dX4_determinant_6 ?_
  refine k_ei (y := nI (wd - 1)) (pk_sub (by omega)) ?_
  refine lv_icmp_ne (tgt := 12) hx hb dX4_determinant_7 (by decide) (fun c_1 => ?_) (fun c_1 => ?_)
  · skip
    have c_1 := mt (nI_eq (by omega) (by omega)).mpr c_1
    refine lv_lconst (v := 0) hx hb dX4_determinant_12 (by decide) ?_
    refine lv_lstore_n (lv' := [(3, .long (0)), (0, .ref (md 0)), (1, .int (nI row)), (2, .int (ot))]) hx hb dX4_determinant_13 rfl hl (by decide) rfl (fun ls hl => ?_)
    refine lv_iconst (v := nI 1) hx hb dX4_determinant_14 (by decide) ?_
    refine lv_istore (lv' := [(5, .int (nI 1)), (3, .long (0)), (0, .ref (md 0)), (1, .int (nI row)), (2, .int (ot))]) hx hb dX4_determinant_15 hl (by decide) rfl (fun ls hl => ?_)
    refine lv_iconst (v := nI 0) hx hb dX4_determinant_17 (by decide) ?_
    refine lv_istore (lv' := [(6, .int (nI 0)), (5, .int (nI 1)), (3, .long (0)), (0, .ref (md 0)), (1, .int (nI row)), (2, .int (ot))]) hx hb dX4_determinant_18 hl (by decide) rfl (fun ls hl => ?_)
    have lp_20 : ∀ (n : Nat) (sm : Int64) (sg : Int32) (c1 : Nat), wd - c1 < n → c1 ≤ wd → dtF bd ch wd 3 row ot = (dtS bd ch row (fun z => dtF bd ch wd 2 (row + 1) z) ot c1 (wd - c1) (sm, sg)).1 → ∀ (H : Heap) (locs : List Loc), va_P g.1 vwCl [(md 0, .inr (4, [.int (xt), .int (nI mi), .int (nI mo), .int (nI mw), .ref (md 1), .ref (md 2), .ref (md 3), .int (nI ni), .int (nI no), .ref (md 4), .ref (md 5), .ref (md 6), .int (nI ns), .ref (md 7), .ref (md 8), .int (nI nb), .int (nI wd), .ref (md 9), .long (tp), .long (bl), .long (wt), .long (wb)])), (md 7, aJ g 85 bd), (md 9, aI g 5 (fun j => nI (ch j)))] H → va_D A [(md 0, .inr (4, [.int (xt), .int (nI mi), .int (nI mo), .int (nI mw), .ref (md 1), .ref (md 2), .ref (md 3), .int (nI ni), .int (nI no), .ref (md 4), .ref (md 5), .ref (md 6), .int (nI ns), .ref (md 7), .ref (md 8), .int (nI nb), .int (nI wd), .ref (md 9), .long (tp), .long (bl), .long (wt), .long (wb)])), (md 7, aJ g 85 bd), (md 9, aI g 5 (fun j => nI (ch j)))] → va_S A s.heap H locs → ∀ ls : Array Slot, lv_has ls 9 [(0, .ref (md 0)), (1, .int (nI row)), (2, .int (ot)), (3, .long (sm)), (5, .int (sg)), (6, .int (nI c1))] → W p l e { frames := 3, cells := 0, slots := 0, locals := 84 } s m args below meth c H locs 0 0 Q (F0 m 20 ls []) := by
      intro n
      induction n with
      | zero =>
        intro sm sg c1 hms
        omega
      | succ n ih_20 =>
        intro sm sg c1 hms_20 hc1 hv H locs hP hD hS ls hl
        refine lv_iload hx hb dX4_determinant_20 (lv_at hl 5 rfl) ?_
        refine lv_aload_n hx hb dX4_determinant_22 rfl (lv_at hl 0 rfl) ?_
        refine k_get hx hb hts hown hK hP iw_X4_determinant_X4 rfl 0 16 fm_X4_determinant_70 (by decide) rfl rfl dX4_determinant_23 ?_
        refine lv_icmp_ge (tgt := 101) hx hb dX4_determinant_26 (by decide) (fun c_2 => ?_) (fun c_2 => ?_)
        · skip
          have c_2 := (nI_leI (by omega) (by omega)).mp c_2
          refine lv_lload_n hx hb dX4_determinant_101 rfl (lv_at hl 3 rfl) ?_
          exact ret dX4_determinant_102 () (by rw [hv, show wd - c1 = 0 by omega]; rfl) hP hD hS
        · skip
          have c_2 := mt (nI_leI (by omega) (by omega)).mpr c_2
          refine lv_iload_n hx hb dX4_determinant_29 rfl (lv_at hl 2 rfl) ?_
          refine lv_iload hx hb dX4_determinant_30 (lv_at hl 5 rfl) ?_
          refine lv_ishr hx hb dX4_determinant_32 ?_
          refine lv_iconst (v := nI 1) hx hb dX4_determinant_33 (by decide) ?_
          refine lv_iand hx hb dX4_determinant_34 ?_
          refine lv_iconst (v := nI 1) hx hb dX4_determinant_35 (by decide) ?_
          refine lv_icmp_ne (tgt := 42) hx hb dX4_determinant_36 (by decide) (fun c_3 => ?_) (fun c_3 => ?_)
          · skip
            have hbt := c_3
            refine lv_aload_n hx hb dX4_determinant_42 rfl (lv_at hl 0 rfl) ?_
            refine k_get hx hb hts hown hK hP iw_X4_determinant_X4 rfl 0 13 fm_X4_determinant_37 (by decide) rfl rfl dX4_determinant_43 ?_
            refine lv_iconst (v := nI 5) hx hb dX4_determinant_46 (by decide) ?_
            refine lv_aload_n hx hb dX4_determinant_47 rfl (lv_at hl 0 rfl) ?_
            refine k_get hx hb hts hown hK hP iw_X4_determinant_X4 rfl 0 17 fm_X4_determinant_43 (by decide) rfl rfl dX4_determinant_48 ?_
            refine lv_iload_n hx hb dX4_determinant_51 rfl (lv_at hl 1 rfl) ?_
            refine k_iald hx hb hK hP 2 rfl (by omega) (by omega) dX4_determinant_52 ?_
            refine k_ei (y := nI (ch row)) (rfl) ?_
            refine lv_imul hx hb dX4_determinant_53 ?_
            refine k_ei (y := nI ((ch row) * 5)) ((pk_mul _ _).trans (congrArg nI (Nat.mul_comm _ _))) ?_
            refine lv_iload hx hb dX4_determinant_54 (lv_at hl 5 rfl) ?_
            refine lv_iadd hx hb dX4_determinant_56 ?_
            refine k_ei (y := nI ((ch row) * 5 + c1)) (nI_add _ _) ?_
            refine k_lald hx hb hK hP 1 rfl (by omega) (by omega) dX4_determinant_57 ?_
            refine lv_lstore (lv' := [(7, .long (bd ((ch row) * 5 + c1))), (0, .ref (md 0)), (1, .int (nI row)), (2, .int (ot)), (3, .long (sm)), (5, .int (sg)), (6, .int (nI c1))]) hx hb dX4_determinant_58 hl (by decide) rfl (fun ls hl => ?_)
            refine lv_lload hx hb dX4_determinant_60 (lv_at hl 0 rfl) ?_
            refine lv_lconst (v := 0) hx hb dX4_determinant_62 (by decide) ?_
            refine W.lcmp hx hb dX4_determinant_63 ?_
            refine lv_if_eq (tgt := 90) hx hb dX4_determinant_64 (by decide) (fun c_4 => ?_) (fun c_4 => ?_)
            · skip
              have c_4 := (lc_eq _ _).mp c_4
              have hv2 : dtF bd ch wd 3 row ot = (dtS bd ch row (fun z => dtF bd ch wd 2 (row + 1) z) ot (c1 + 1) (wd - (c1 + 1)) (sm, -sg)).1 := by rw [hv, show wd - c1 = (wd - (c1 + 1)) + 1 by omega, dtS, dtP, if_neg hbt, if_pos c_4]
              refine lv_iload hx hb dX4_determinant_90 (lv_at hl 5 rfl) ?_
              refine lv_ineg hx hb dX4_determinant_92 ?_
              refine lv_istore (lv' := [(5, .int (-sg)), (7, .long (bd ((ch row) * 5 + c1))), (0, .ref (md 0)), (1, .int (nI row)), (2, .int (ot)), (3, .long (sm)), (6, .int (nI c1))]) hx hb dX4_determinant_93 hl (by decide) rfl (fun ls hl => ?_)
              refine lv_iinc (v := nI (c1 + 1)) (lv' := [(6, .int (nI (c1 + 1))), (5, .int (-sg)), (7, .long (bd ((ch row) * 5 + c1))), (0, .ref (md 0)), (1, .int (nI row)), (2, .int (ot)), (3, .long (sm))]) hx hb dX4_determinant_95 hl (k := 6) rfl (nI_inc1 c1) (by decide) rfl (fun ls hl => ?_)
              refine lv_goto (tgt := 20) hx hb dX4_determinant_98 (by decide) ?_
              exact ih_20 sm (-sg) (c1 + 1) (by omega) (by omega) hv2 _ _ hP hD hS ls (lv_sub hl [3, 4, 5, 6, 1, 0] rfl)
            · skip
              have c_4 := mt (lc_eq _ _).mpr c_4
              have hv2 : dtF bd ch wd 3 row ot = (dtS bd ch row (fun z => dtF bd ch wd 2 (row + 1) z) ot (c1 + 1) (wd - (c1 + 1)) (sm + sg.toInt64 * bd (ch row * 5 + c1) * dtF bd ch wd 2 (row + 1) (ot ||| (nI 1 <<< (nI c1 &&& 31))), -sg)).1 := by rw [hv, show wd - c1 = (wd - (c1 + 1)) + 1 by omega, dtS, dtP, if_neg hbt, if_neg c_4]
              refine lv_lload_n hx hb dX4_determinant_67 rfl (lv_at hl 4 rfl) ?_
              refine lv_iload hx hb dX4_determinant_68 (lv_at hl 5 rfl) ?_
              refine lv_i2l hx hb dX4_determinant_70 rfl ?_
              refine lv_lload hx hb dX4_determinant_71 (lv_at hl 0 rfl) ?_
              refine lv_lmul hx hb dX4_determinant_73 ?_
              refine lv_aload_n hx hb dX4_determinant_74 rfl (lv_at hl 1 rfl) ?_
              refine lv_iload_n hx hb dX4_determinant_75 rfl (lv_at hl 2 rfl) ?_
              refine lv_iconst (v := nI 1) hx hb dX4_determinant_76 (by decide) ?_
              refine lv_iadd hx hb dX4_determinant_77 ?_
              refine k_ei (y := nI (row + 1)) (nI_add _ _) ?_
              refine lv_iload_n hx hb dX4_determinant_78 rfl (lv_at hl 3 rfl) ?_
              refine lv_iconst (v := nI 1) hx hb dX4_determinant_79 (by decide) ?_
              refine lv_iload hx hb dX4_determinant_80 (lv_at hl 6 rfl) ?_
              refine lv_ishl hx hb dX4_determinant_82 ?_
              refine lv_ior hx hb dX4_determinant_83 ?_
              refine go_l (wc := [(md 0, .inr (4, [.int (xt), .int (nI mi), .int (nI mo), .int (nI mw), .ref (md 1), .ref (md 2), .ref (md 3), .int (nI ni), .int (nI no), .ref (md 4), .ref (md 5), .ref (md 6), .int (nI ns), .ref (md 7), .ref (md 8), .int (nI nb), .int (nI wd), .ref (md 9), .long (tp), .long (bl), .long (wt), .long (wb)])), (md 7, aJ g 85 bd), (md 9, aI g 5 (fun j => nI (ch j)))]) (wr := []) hP hD hS hA [0, 1, 2] [] rfl rfl rfl rfl (by decide) (fun hPc hDc => rn_V (As := [.int (nI (row + 1)), .int (ot ||| ((nI 1) <<< ((nI c1) &&& 31)))]) (rest := [.long (sg.toInt64 * (bd ((ch row) * 5 + c1))), .long (sm)]) ⟨hx, hb, hml, hown, hts⟩ ((c_X4_det2 l g md xt mi mo mw ni no ns nb wd tp bl wt wb bd ch (row + 1) (ot ||| ((nI 1) <<< ((nI c1) &&& 31))) (by omega) (by omega) hch) _) (cw_X4_determinant_91_2_56 hts hN ⟨Nat.le_of_ble_eq_true rfl, Nat.le_of_ble_eq_true rfl⟩) hK hN hPc hDc 0 rfl rfl rfl rfl hl.1 (Nat.le_of_ble_eq_true rfl) dX4_determinant_84 ⟨Nat.le_of_ble_eq_true rfl, Nat.le_of_ble_eq_true rfl⟩) ?_
              intro r_5 u_6 H locs h_7 hP hD hS
              have hP : va_P g.1 vwCl [(md 0, .inr (4, [.int (xt), .int (nI mi), .int (nI mo), .int (nI mw), .ref (md 1), .ref (md 2), .ref (md 3), .int (nI ni), .int (nI no), .ref (md 4), .ref (md 5), .ref (md 6), .int (nI ns), .ref (md 7), .ref (md 8), .int (nI nb), .int (nI wd), .ref (md 9), .long (tp), .long (bl), .long (wt), .long (wb)])), (md 7, aJ g 85 bd), (md 9, aI g 5 (fun j => nI (ch j)))] H := hP.sub [0, 1, 2] rfl
              have hD : va_D A [(md 0, .inr (4, [.int (xt), .int (nI mi), .int (nI mo), .int (nI mw), .ref (md 1), .ref (md 2), .ref (md 3), .int (nI ni), .int (nI no), .ref (md 4), .ref (md 5), .ref (md 6), .int (nI ns), .ref (md 7), .ref (md 8), .int (nI nb), .int (nI wd), .ref (md 9), .long (tp), .long (bl), .long (wt), .long (wb)])), (md 7, aJ g 85 bd), (md 9, aI g 5 (fun j => nI (ch j)))] := hD.sub [0, 1, 2] rfl rfl
              have h_7 : r_5 = dtF bd ch wd 2 (row + 1) (ot ||| ((nI 1) <<< ((nI c1) &&& 31))) := h_7
              subst h_7
              refine lv_lmul hx hb dX4_determinant_87 ?_
              refine lv_ladd hx hb dX4_determinant_88 ?_
              refine lv_lstore_n (lv' := [(3, .long (sm + ((sg.toInt64 * (bd ((ch row) * 5 + c1))) * (dtF bd ch wd 2 (row + 1) (ot ||| ((nI 1) <<< ((nI c1) &&& 31))))))), (7, .long (bd ((ch row) * 5 + c1))), (0, .ref (md 0)), (1, .int (nI row)), (2, .int (ot)), (5, .int (sg)), (6, .int (nI c1))]) hx hb dX4_determinant_89 rfl hl (by decide) rfl (fun ls hl => ?_)
              refine lv_iload hx hb dX4_determinant_90 (lv_at hl 5 rfl) ?_
              refine lv_ineg hx hb dX4_determinant_92 ?_
              refine lv_istore (lv' := [(5, .int (-sg)), (3, .long (sm + ((sg.toInt64 * (bd ((ch row) * 5 + c1))) * (dtF bd ch wd 2 (row + 1) (ot ||| ((nI 1) <<< ((nI c1) &&& 31))))))), (7, .long (bd ((ch row) * 5 + c1))), (0, .ref (md 0)), (1, .int (nI row)), (2, .int (ot)), (6, .int (nI c1))]) hx hb dX4_determinant_93 hl (by decide) rfl (fun ls hl => ?_)
              refine lv_iinc (v := nI (c1 + 1)) (lv' := [(6, .int (nI (c1 + 1))), (5, .int (-sg)), (3, .long (sm + ((sg.toInt64 * (bd ((ch row) * 5 + c1))) * (dtF bd ch wd 2 (row + 1) (ot ||| ((nI 1) <<< ((nI c1) &&& 31))))))), (7, .long (bd ((ch row) * 5 + c1))), (0, .ref (md 0)), (1, .int (nI row)), (2, .int (ot))]) hx hb dX4_determinant_95 hl (k := 6) rfl (nI_inc1 c1) (by decide) rfl (fun ls hl => ?_)
              refine lv_goto (tgt := 20) hx hb dX4_determinant_98 (by decide) ?_
              exact ih_20 (sm + ((sg.toInt64 * (bd ((ch row) * 5 + c1))) * (dtF bd ch wd 2 (row + 1) (ot ||| ((nI 1) <<< ((nI c1) &&& 31)))))) (-sg) (c1 + 1) (by omega) (by omega) hv2 _ _ hP hD hS ls (lv_sub hl [4, 5, 6, 2, 1, 0] rfl)
          · skip
            have hv2 : dtF bd ch wd 3 row ot = (dtS bd ch row (fun z => dtF bd ch wd 2 (row + 1) z) ot (c1 + 1) (wd - (c1 + 1)) (sm, sg)).1 := by rw [hv, show wd - c1 = (wd - (c1 + 1)) + 1 by omega, dtS, dtP, if_pos c_3]
            refine lv_goto (tgt := 95) hx hb dX4_determinant_39 (by decide) ?_
            refine lv_iinc (v := nI (c1 + 1)) (lv' := [(6, .int (nI (c1 + 1))), (0, .ref (md 0)), (1, .int (nI row)), (2, .int (ot)), (3, .long (sm)), (5, .int (sg))]) hx hb dX4_determinant_95 hl (k := 5) rfl (nI_inc1 c1) (by decide) rfl (fun ls hl => ?_)
            refine lv_goto (tgt := 20) hx hb dX4_determinant_98 (by decide) ?_
            exact ih_20 sm sg (c1 + 1) (by omega) (by omega) hv2 _ _ hP hD hS ls (lv_sub hl [1, 2, 3, 4, 5, 0] rfl)
    exact lp_20 (wd - 0 + 1) 0 (nI 1) 0 (by omega) (by omega) rfl _ _ hP hD hS ls (lv_sub hl [3, 4, 5, 2, 1, 0] rfl)
  · skip
    have c_1 := (nI_eq (by omega) (by omega)).mp c_1
    omega
theorem cw_X4_determinant_91_3_84 {R : Room} {s : State} {args : Array Value} (hts : ∀ w ∈ wsX4_determinant, w.before args s = true) (hN : nsW s) (hR : 3 + 1 ≤ R.frames ∧ 8 + (9 + 11) + 84 ≤ R.locals) : CallW R s args RX4 RX4 91 yX4_determinant cX4_determinant 9 (some .long) wsX4_determinant { frames := 3, cells := 0, slots := 0, locals := 84 } 0 0 2 := cwV 2 hts gX4_determinant_X4_determinant rfl rfl rfl ⟨rfl, hdn_X4_determinant⟩ hR
set_option maxHeartbeats 20000000 in
set_option maxRecDepth 100000 in
theorem c_X4_det4 (l : Launch) (g : Gt) (md : Nat → Nat) (xt : Int32) (mi : Nat) (mo : Nat) (mw : Nat) (ni : Nat) (no : Nat) (ns : Nat) (nb : Nat) (wd : Nat) (tp : Int64) (bl : Int64) (wt : Int64) (wb : Int64) (bd : Nat → Int64) (ch : Nat → Nat) (row : Nat) (ot : Int32) (hr : row + 4 + 1 = wd) (hwd : wd ≤ 5) (hch : ∀ j : Nat, j + 1 < wd → ch j < 17) : CL l yX4_determinant wsX4_determinant { frames := 4, cells := 0, slots := 0, locals := 112 } g [.ref (md 0), .int (nI row), .int (ot)] [(md 0, .inr (4, [.int (xt), .int (nI mi), .int (nI mo), .int (nI mw), .ref (md 1), .ref (md 2), .ref (md 3), .int (nI ni), .int (nI no), .ref (md 4), .ref (md 5), .ref (md 6), .int (nI ns), .ref (md 7), .ref (md 8), .int (nI nb), .int (nI wd), .ref (md 9), .long (tp), .long (bl), .long (wt), .long (wb)])), (md 7, aJ g 85 bd), (md 9, aI g 5 (fun j => nI (ch j)))] (fun zr (zu : Unit) => zr = dtF bd ch wd 4 row ot) (fun (zu : Unit) => [(md 0, .inr (4, [.int (xt), .int (nI mi), .int (nI mo), .int (nI mw), .ref (md 1), .ref (md 2), .ref (md 3), .int (nI ni), .int (nI no), .ref (md 4), .ref (md 5), .ref (md 6), .int (nI ns), .ref (md 7), .ref (md 8), .int (nI nb), .int (nI wd), .ref (md 9), .long (tp), .long (bl), .long (wt), .long (wb)])), (md 7, aJ g 85 bd), (md 9, aI g 5 (fun j => nI (ch j)))]) 0 0 := by
  refine ent_l (cc := cX4_determinant) (maxL := 9) (by decide) rfl (Nat.le_of_ble_eq_true rfl) ?_
  intro p e s m below meth c A args Q hE ret ls hl
  obtain ⟨hx, hb, hml, hown, hts, hnm, hA, hP, hD, hK, hN⟩ := hE
  have hS : va_S A s.heap s.heap [] := va_S.rf
  have hl : lv_has ls 9 [(0, .ref (md 0)), (1, .int (nI row)), (2, .int (ot))] := hl
  have hP : va_P g.1 vwCl [(md 0, .inr (4, [.int (xt), .int (nI mi), .int (nI mo), .int (nI mw), .ref (md 1), .ref (md 2), .ref (md 3), .int (nI ni), .int (nI no), .ref (md 4), .ref (md 5), .ref (md 6), .int (nI ns), .ref (md 7), .ref (md 8), .int (nI nb), .int (nI wd), .ref (md 9), .long (tp), .long (bl), .long (wt), .long (wb)])), (md 7, aJ g 85 bd), (md 9, aI g 5 (fun j => nI (ch j)))] s.heap := hP
  have hcr := hch row (by omega)
  refine lv_iload_n hx hb dX4_determinant_0 rfl (lv_at hl 1 rfl) ?_
  refine lv_aload_n hx hb dX4_determinant_1 rfl (lv_at hl 0 rfl) ?_
  refine k_get hx hb hts hown hK hP iw_X4_determinant_X4 rfl 0 16 fm_X4_determinant_70 (by decide) rfl rfl dX4_determinant_2 ?_
  refine lv_iconst (v := nI 1) hx hb dX4_determinant_5 (by decide) ?_
  refine lv_isub hx hb dX4_determinant_6 ?_
  refine k_ei (y := nI (wd - 1)) (pk_sub (by omega)) ?_
  refine lv_icmp_ne (tgt := 12) hx hb dX4_determinant_7 (by decide) (fun c_1 => ?_) (fun c_1 => ?_)
  · skip
    have c_1 := mt (nI_eq (by omega) (by omega)).mpr c_1
    refine lv_lconst (v := 0) hx hb dX4_determinant_12 (by decide) ?_
    refine lv_lstore_n (lv' := [(3, .long (0)), (0, .ref (md 0)), (1, .int (nI row)), (2, .int (ot))]) hx hb dX4_determinant_13 rfl hl (by decide) rfl (fun ls hl => ?_)
    refine lv_iconst (v := nI 1) hx hb dX4_determinant_14 (by decide) ?_
    refine lv_istore (lv' := [(5, .int (nI 1)), (3, .long (0)), (0, .ref (md 0)), (1, .int (nI row)), (2, .int (ot))]) hx hb dX4_determinant_15 hl (by decide) rfl (fun ls hl => ?_)
    refine lv_iconst (v := nI 0) hx hb dX4_determinant_17 (by decide) ?_
    refine lv_istore (lv' := [(6, .int (nI 0)), (5, .int (nI 1)), (3, .long (0)), (0, .ref (md 0)), (1, .int (nI row)), (2, .int (ot))]) hx hb dX4_determinant_18 hl (by decide) rfl (fun ls hl => ?_)
    have lp_20 : ∀ (n : Nat) (sm : Int64) (sg : Int32) (c1 : Nat), wd - c1 < n → c1 ≤ wd → dtF bd ch wd 4 row ot = (dtS bd ch row (fun z => dtF bd ch wd 3 (row + 1) z) ot c1 (wd - c1) (sm, sg)).1 → ∀ (H : Heap) (locs : List Loc), va_P g.1 vwCl [(md 0, .inr (4, [.int (xt), .int (nI mi), .int (nI mo), .int (nI mw), .ref (md 1), .ref (md 2), .ref (md 3), .int (nI ni), .int (nI no), .ref (md 4), .ref (md 5), .ref (md 6), .int (nI ns), .ref (md 7), .ref (md 8), .int (nI nb), .int (nI wd), .ref (md 9), .long (tp), .long (bl), .long (wt), .long (wb)])), (md 7, aJ g 85 bd), (md 9, aI g 5 (fun j => nI (ch j)))] H → va_D A [(md 0, .inr (4, [.int (xt), .int (nI mi), .int (nI mo), .int (nI mw), .ref (md 1), .ref (md 2), .ref (md 3), .int (nI ni), .int (nI no), .ref (md 4), .ref (md 5), .ref (md 6), .int (nI ns), .ref (md 7), .ref (md 8), .int (nI nb), .int (nI wd), .ref (md 9), .long (tp), .long (bl), .long (wt), .long (wb)])), (md 7, aJ g 85 bd), (md 9, aI g 5 (fun j => nI (ch j)))] → va_S A s.heap H locs → ∀ ls : Array Slot, lv_has ls 9 [(0, .ref (md 0)), (1, .int (nI row)), (2, .int (ot)), (3, .long (sm)), (5, .int (sg)), (6, .int (nI c1))] → W p l e { frames := 4, cells := 0, slots := 0, locals := 112 } s m args below meth c H locs 0 0 Q (F0 m 20 ls []) := by
      intro n
      induction n with
      | zero =>
        intro sm sg c1 hms
        omega
      | succ n ih_20 =>
        intro sm sg c1 hms_20 hc1 hv H locs hP hD hS ls hl
        refine lv_iload hx hb dX4_determinant_20 (lv_at hl 5 rfl) ?_
        refine lv_aload_n hx hb dX4_determinant_22 rfl (lv_at hl 0 rfl) ?_
        refine k_get hx hb hts hown hK hP iw_X4_determinant_X4 rfl 0 16 fm_X4_determinant_70 (by decide) rfl rfl dX4_determinant_23 ?_
        refine lv_icmp_ge (tgt := 101) hx hb dX4_determinant_26 (by decide) (fun c_2 => ?_) (fun c_2 => ?_)
        · skip
          have c_2 := (nI_leI (by omega) (by omega)).mp c_2
          refine lv_lload_n hx hb dX4_determinant_101 rfl (lv_at hl 3 rfl) ?_
          exact ret dX4_determinant_102 () (by rw [hv, show wd - c1 = 0 by omega]; rfl) hP hD hS
        · skip
          have c_2 := mt (nI_leI (by omega) (by omega)).mpr c_2
          refine lv_iload_n hx hb dX4_determinant_29 rfl (lv_at hl 2 rfl) ?_
          refine lv_iload hx hb dX4_determinant_30 (lv_at hl 5 rfl) ?_
          refine lv_ishr hx hb dX4_determinant_32 ?_
          refine lv_iconst (v := nI 1) hx hb dX4_determinant_33 (by decide) ?_
          refine lv_iand hx hb dX4_determinant_34 ?_
          refine lv_iconst (v := nI 1) hx hb dX4_determinant_35 (by decide) ?_
          refine lv_icmp_ne (tgt := 42) hx hb dX4_determinant_36 (by decide) (fun c_3 => ?_) (fun c_3 => ?_)
          · skip
            have hbt := c_3
            refine lv_aload_n hx hb dX4_determinant_42 rfl (lv_at hl 0 rfl) ?_
            refine k_get hx hb hts hown hK hP iw_X4_determinant_X4 rfl 0 13 fm_X4_determinant_37 (by decide) rfl rfl dX4_determinant_43 ?_
            refine lv_iconst (v := nI 5) hx hb dX4_determinant_46 (by decide) ?_
            refine lv_aload_n hx hb dX4_determinant_47 rfl (lv_at hl 0 rfl) ?_
            refine k_get hx hb hts hown hK hP iw_X4_determinant_X4 rfl 0 17 fm_X4_determinant_43 (by decide) rfl rfl dX4_determinant_48 ?_
            refine lv_iload_n hx hb dX4_determinant_51 rfl (lv_at hl 1 rfl) ?_
            refine k_iald hx hb hK hP 2 rfl (by omega) (by omega) dX4_determinant_52 ?_
            refine k_ei (y := nI (ch row)) (rfl) ?_
            refine lv_imul hx hb dX4_determinant_53 ?_
            refine k_ei (y := nI ((ch row) * 5)) ((pk_mul _ _).trans (congrArg nI (Nat.mul_comm _ _))) ?_
            refine lv_iload hx hb dX4_determinant_54 (lv_at hl 5 rfl) ?_
            refine lv_iadd hx hb dX4_determinant_56 ?_
            refine k_ei (y := nI ((ch row) * 5 + c1)) (nI_add _ _) ?_
            refine k_lald hx hb hK hP 1 rfl (by omega) (by omega) dX4_determinant_57 ?_
            refine lv_lstore (lv' := [(7, .long (bd ((ch row) * 5 + c1))), (0, .ref (md 0)), (1, .int (nI row)), (2, .int (ot)), (3, .long (sm)), (5, .int (sg)), (6, .int (nI c1))]) hx hb dX4_determinant_58 hl (by decide) rfl (fun ls hl => ?_)
            refine lv_lload hx hb dX4_determinant_60 (lv_at hl 0 rfl) ?_
            refine lv_lconst (v := 0) hx hb dX4_determinant_62 (by decide) ?_
            refine W.lcmp hx hb dX4_determinant_63 ?_
            refine lv_if_eq (tgt := 90) hx hb dX4_determinant_64 (by decide) (fun c_4 => ?_) (fun c_4 => ?_)
            · skip
              have c_4 := (lc_eq _ _).mp c_4
              have hv2 : dtF bd ch wd 4 row ot = (dtS bd ch row (fun z => dtF bd ch wd 3 (row + 1) z) ot (c1 + 1) (wd - (c1 + 1)) (sm, -sg)).1 := by rw [hv, show wd - c1 = (wd - (c1 + 1)) + 1 by omega, dtS, dtP, if_neg hbt, if_pos c_4]
              refine lv_iload hx hb dX4_determinant_90 (lv_at hl 5 rfl) ?_
              refine lv_ineg hx hb dX4_determinant_92 ?_
              refine lv_istore (lv' := [(5, .int (-sg)), (7, .long (bd ((ch row) * 5 + c1))), (0, .ref (md 0)), (1, .int (nI row)), (2, .int (ot)), (3, .long (sm)), (6, .int (nI c1))]) hx hb dX4_determinant_93 hl (by decide) rfl (fun ls hl => ?_)
              refine lv_iinc (v := nI (c1 + 1)) (lv' := [(6, .int (nI (c1 + 1))), (5, .int (-sg)), (7, .long (bd ((ch row) * 5 + c1))), (0, .ref (md 0)), (1, .int (nI row)), (2, .int (ot)), (3, .long (sm))]) hx hb dX4_determinant_95 hl (k := 6) rfl (nI_inc1 c1) (by decide) rfl (fun ls hl => ?_)
              refine lv_goto (tgt := 20) hx hb dX4_determinant_98 (by decide) ?_
              exact ih_20 sm (-sg) (c1 + 1) (by omega) (by omega) hv2 _ _ hP hD hS ls (lv_sub hl [3, 4, 5, 6, 1, 0] rfl)
            · skip
              have c_4 := mt (lc_eq _ _).mpr c_4
              have hv2 : dtF bd ch wd 4 row ot = (dtS bd ch row (fun z => dtF bd ch wd 3 (row + 1) z) ot (c1 + 1) (wd - (c1 + 1)) (sm + sg.toInt64 * bd (ch row * 5 + c1) * dtF bd ch wd 3 (row + 1) (ot ||| (nI 1 <<< (nI c1 &&& 31))), -sg)).1 := by rw [hv, show wd - c1 = (wd - (c1 + 1)) + 1 by omega, dtS, dtP, if_neg hbt, if_neg c_4]
              refine lv_lload_n hx hb dX4_determinant_67 rfl (lv_at hl 4 rfl) ?_
              refine lv_iload hx hb dX4_determinant_68 (lv_at hl 5 rfl) ?_
              refine lv_i2l hx hb dX4_determinant_70 rfl ?_
              refine lv_lload hx hb dX4_determinant_71 (lv_at hl 0 rfl) ?_
              refine lv_lmul hx hb dX4_determinant_73 ?_
              refine lv_aload_n hx hb dX4_determinant_74 rfl (lv_at hl 1 rfl) ?_
              refine lv_iload_n hx hb dX4_determinant_75 rfl (lv_at hl 2 rfl) ?_
              refine lv_iconst (v := nI 1) hx hb dX4_determinant_76 (by decide) ?_
              refine lv_iadd hx hb dX4_determinant_77 ?_
              refine k_ei (y := nI (row + 1)) (nI_add _ _) ?_
              refine lv_iload_n hx hb dX4_determinant_78 rfl (lv_at hl 3 rfl) ?_
              refine lv_iconst (v := nI 1) hx hb dX4_determinant_79 (by decide) ?_
              refine lv_iload hx hb dX4_determinant_80 (lv_at hl 6 rfl) ?_
              refine lv_ishl hx hb dX4_determinant_82 ?_
              refine lv_ior hx hb dX4_determinant_83 ?_
              refine go_l (wc := [(md 0, .inr (4, [.int (xt), .int (nI mi), .int (nI mo), .int (nI mw), .ref (md 1), .ref (md 2), .ref (md 3), .int (nI ni), .int (nI no), .ref (md 4), .ref (md 5), .ref (md 6), .int (nI ns), .ref (md 7), .ref (md 8), .int (nI nb), .int (nI wd), .ref (md 9), .long (tp), .long (bl), .long (wt), .long (wb)])), (md 7, aJ g 85 bd), (md 9, aI g 5 (fun j => nI (ch j)))]) (wr := []) hP hD hS hA [0, 1, 2] [] rfl rfl rfl rfl (by decide) (fun hPc hDc => rn_V (As := [.int (nI (row + 1)), .int (ot ||| ((nI 1) <<< ((nI c1) &&& 31)))]) (rest := [.long (sg.toInt64 * (bd ((ch row) * 5 + c1))), .long (sm)]) ⟨hx, hb, hml, hown, hts⟩ ((c_X4_det3 l g md xt mi mo mw ni no ns nb wd tp bl wt wb bd ch (row + 1) (ot ||| ((nI 1) <<< ((nI c1) &&& 31))) (by omega) (by omega) hch) _) (cw_X4_determinant_91_3_84 hts hN ⟨Nat.le_of_ble_eq_true rfl, Nat.le_of_ble_eq_true rfl⟩) hK hN hPc hDc 0 rfl rfl rfl rfl hl.1 (Nat.le_of_ble_eq_true rfl) dX4_determinant_84 ⟨Nat.le_of_ble_eq_true rfl, Nat.le_of_ble_eq_true rfl⟩) ?_
              intro r_5 u_6 H locs h_7 hP hD hS
              have hP : va_P g.1 vwCl [(md 0, .inr (4, [.int (xt), .int (nI mi), .int (nI mo), .int (nI mw), .ref (md 1), .ref (md 2), .ref (md 3), .int (nI ni), .int (nI no), .ref (md 4), .ref (md 5), .ref (md 6), .int (nI ns), .ref (md 7), .ref (md 8), .int (nI nb), .int (nI wd), .ref (md 9), .long (tp), .long (bl), .long (wt), .long (wb)])), (md 7, aJ g 85 bd), (md 9, aI g 5 (fun j => nI (ch j)))] H := hP.sub [0, 1, 2] rfl
              have hD : va_D A [(md 0, .inr (4, [.int (xt), .int (nI mi), .int (nI mo), .int (nI mw), .ref (md 1), .ref (md 2), .ref (md 3), .int (nI ni), .int (nI no), .ref (md 4), .ref (md 5), .ref (md 6), .int (nI ns), .ref (md 7), .ref (md 8), .int (nI nb), .int (nI wd), .ref (md 9), .long (tp), .long (bl), .long (wt), .long (wb)])), (md 7, aJ g 85 bd), (md 9, aI g 5 (fun j => nI (ch j)))] := hD.sub [0, 1, 2] rfl rfl
              have h_7 : r_5 = dtF bd ch wd 3 (row + 1) (ot ||| ((nI 1) <<< ((nI c1) &&& 31))) := h_7
              subst h_7
              refine lv_lmul hx hb dX4_determinant_87 ?_
              refine lv_ladd hx hb dX4_determinant_88 ?_
              refine lv_lstore_n (lv' := [(3, .long (sm + ((sg.toInt64 * (bd ((ch row) * 5 + c1))) * (dtF bd ch wd 3 (row + 1) (ot ||| ((nI 1) <<< ((nI c1) &&& 31))))))), (7, .long (bd ((ch row) * 5 + c1))), (0, .ref (md 0)), (1, .int (nI row)), (2, .int (ot)), (5, .int (sg)), (6, .int (nI c1))]) hx hb dX4_determinant_89 rfl hl (by decide) rfl (fun ls hl => ?_)
              refine lv_iload hx hb dX4_determinant_90 (lv_at hl 5 rfl) ?_
              refine lv_ineg hx hb dX4_determinant_92 ?_
              refine lv_istore (lv' := [(5, .int (-sg)), (3, .long (sm + ((sg.toInt64 * (bd ((ch row) * 5 + c1))) * (dtF bd ch wd 3 (row + 1) (ot ||| ((nI 1) <<< ((nI c1) &&& 31))))))), (7, .long (bd ((ch row) * 5 + c1))), (0, .ref (md 0)), (1, .int (nI row)), (2, .int (ot)), (6, .int (nI c1))]) hx hb dX4_determinant_93 hl (by decide) rfl (fun ls hl => ?_)
              refine lv_iinc (v := nI (c1 + 1)) (lv' := [(6, .int (nI (c1 + 1))), (5, .int (-sg)), (3, .long (sm + ((sg.toInt64 * (bd ((ch row) * 5 + c1))) * (dtF bd ch wd 3 (row + 1) (ot ||| ((nI 1) <<< ((nI c1) &&& 31))))))), (7, .long (bd ((ch row) * 5 + c1))), (0, .ref (md 0)), (1, .int (nI row)), (2, .int (ot))]) hx hb dX4_determinant_95 hl (k := 6) rfl (nI_inc1 c1) (by decide) rfl (fun ls hl => ?_)
              refine lv_goto (tgt := 20) hx hb dX4_determinant_98 (by decide) ?_
              exact ih_20 (sm + ((sg.toInt64 * (bd ((ch row) * 5 + c1))) * (dtF bd ch wd 3 (row + 1) (ot ||| ((nI 1) <<< ((nI c1) &&& 31)))))) (-sg) (c1 + 1) (by omega) (by omega) hv2 _ _ hP hD hS ls (lv_sub hl [4, 5, 6, 2, 1, 0] rfl)
          · skip
            have hv2 : dtF bd ch wd 4 row ot = (dtS bd ch row (fun z => dtF bd ch wd 3 (row + 1) z) ot (c1 + 1) (wd - (c1 + 1)) (sm, sg)).1 := by rw [hv, show wd - c1 = (wd - (c1 + 1)) + 1 by omega, dtS, dtP, if_pos c_3]
            refine lv_goto (tgt := 95) hx hb dX4_determinant_39 (by decide) ?_
            refine lv_iinc (v := nI (c1 + 1)) (lv' := [(6, .int (nI (c1 + 1))), (0, .ref (md 0)), (1, .int (nI row)), (2, .int (ot)), (3, .long (sm)), (5, .int (sg))]) hx hb dX4_determinant_95 hl (k := 5) rfl (nI_inc1 c1) (by decide) rfl (fun ls hl => ?_)
            refine lv_goto (tgt := 20) hx hb dX4_determinant_98 (by decide) ?_
            exact ih_20 sm sg (c1 + 1) (by omega) (by omega) hv2 _ _ hP hD hS ls (lv_sub hl [1, 2, 3, 4, 5, 0] rfl)
    exact lp_20 (wd - 0 + 1) 0 (nI 1) 0 (by omega) (by omega) rfl _ _ hP hD hS ls (lv_sub hl [3, 4, 5, 2, 1, 0] rfl)
  · skip
    have c_1 := (nI_eq (by omega) (by omega)).mp c_1
    omega
set_option maxHeartbeats 20000000 in
set_option maxRecDepth 100000 in
theorem c_X4_dtt1 (l : Launch) (g : Gt) (md : Nat → Nat) (xt : Int32) (mi : Nat) (mo : Nat) (mw : Nat) (ni : Nat) (no : Nat) (ns : Nat) (nb : Nat) (wd : Nat) (tp : Int64) (bl : Int64) (wt : Int64) (wb : Int64) (bd : Nat → Int64) (ch : Nat → Nat) (row : Nat) (ot : Int32) (hr : row + 1 + 1 = wd) (hwd : wd ≤ 5) (hch : ∀ j : Nat, j + 1 < wd → ch j < 17) : CL l yX4_determinant wsX4_determinant { frames := 4, cells := 0, slots := 0, locals := 112 } g [.ref (md 0), .int (nI row), .int (ot)] [(md 0, .inr (4, [.int (xt), .int (nI mi), .int (nI mo), .int (nI mw), .ref (md 1), .ref (md 2), .ref (md 3), .int (nI ni), .int (nI no), .ref (md 4), .ref (md 5), .ref (md 6), .int (nI ns), .ref (md 7), .ref (md 8), .int (nI nb), .int (nI wd), .ref (md 9), .long (tp), .long (bl), .long (wt), .long (wb)])), (md 7, aJ g 85 bd), (md 9, aI g 5 (fun j => nI (ch j)))] (fun zr (zu : Unit) => zr = dtF bd ch wd 1 row ot) (fun (zu : Unit) => [(md 0, .inr (4, [.int (xt), .int (nI mi), .int (nI mo), .int (nI mw), .ref (md 1), .ref (md 2), .ref (md 3), .int (nI ni), .int (nI no), .ref (md 4), .ref (md 5), .ref (md 6), .int (nI ns), .ref (md 7), .ref (md 8), .int (nI nb), .int (nI wd), .ref (md 9), .long (tp), .long (bl), .long (wt), .long (wb)])), (md 7, aJ g 85 bd), (md 9, aI g 5 (fun j => nI (ch j)))]) 0 0 := by
  refine ent_l (cc := cX4_determinant) (maxL := 9) (by decide) rfl (Nat.le_of_ble_eq_true rfl) ?_
  intro p e s m below meth c A args Q hE ret ls hl
  obtain ⟨hx, hb, hml, hown, hts, hnm, hA, hP, hD, hK, hN⟩ := hE
  have hS : va_S A s.heap s.heap [] := va_S.rf
  have hl : lv_has ls 9 [(0, .ref (md 0)), (1, .int (nI row)), (2, .int (ot))] := hl
  have hP : va_P g.1 vwCl [(md 0, .inr (4, [.int (xt), .int (nI mi), .int (nI mo), .int (nI mw), .ref (md 1), .ref (md 2), .ref (md 3), .int (nI ni), .int (nI no), .ref (md 4), .ref (md 5), .ref (md 6), .int (nI ns), .ref (md 7), .ref (md 8), .int (nI nb), .int (nI wd), .ref (md 9), .long (tp), .long (bl), .long (wt), .long (wb)])), (md 7, aJ g 85 bd), (md 9, aI g 5 (fun j => nI (ch j)))] s.heap := hP
  have hcr := hch row (by omega)
  refine lv_iload_n hx hb dX4_determinant_0 rfl (lv_at hl 1 rfl) ?_
  refine lv_aload_n hx hb dX4_determinant_1 rfl (lv_at hl 0 rfl) ?_
  refine k_get hx hb hts hown hK hP iw_X4_determinant_X4 rfl 0 16 fm_X4_determinant_70 (by decide) rfl rfl dX4_determinant_2 ?_
  refine lv_iconst (v := nI 1) hx hb dX4_determinant_5 (by decide) ?_
  refine lv_isub hx hb dX4_determinant_6 ?_
  refine k_ei (y := nI (wd - 1)) (pk_sub (by omega)) ?_
  refine lv_icmp_ne (tgt := 12) hx hb dX4_determinant_7 (by decide) (fun c_1 => ?_) (fun c_1 => ?_)
  · skip
    have c_1 := mt (nI_eq (by omega) (by omega)).mpr c_1
    refine lv_lconst (v := 0) hx hb dX4_determinant_12 (by decide) ?_
    refine lv_lstore_n (lv' := [(3, .long (0)), (0, .ref (md 0)), (1, .int (nI row)), (2, .int (ot))]) hx hb dX4_determinant_13 rfl hl (by decide) rfl (fun ls hl => ?_)
    refine lv_iconst (v := nI 1) hx hb dX4_determinant_14 (by decide) ?_
    refine lv_istore (lv' := [(5, .int (nI 1)), (3, .long (0)), (0, .ref (md 0)), (1, .int (nI row)), (2, .int (ot))]) hx hb dX4_determinant_15 hl (by decide) rfl (fun ls hl => ?_)
    refine lv_iconst (v := nI 0) hx hb dX4_determinant_17 (by decide) ?_
    refine lv_istore (lv' := [(6, .int (nI 0)), (5, .int (nI 1)), (3, .long (0)), (0, .ref (md 0)), (1, .int (nI row)), (2, .int (ot))]) hx hb dX4_determinant_18 hl (by decide) rfl (fun ls hl => ?_)
    have lp_20 : ∀ (n : Nat) (sm : Int64) (sg : Int32) (c1 : Nat), wd - c1 < n → c1 ≤ wd → dtF bd ch wd 1 row ot = (dtS bd ch row (fun z => dtF bd ch wd 0 (row + 1) z) ot c1 (wd - c1) (sm, sg)).1 → ∀ (H : Heap) (locs : List Loc), va_P g.1 vwCl [(md 0, .inr (4, [.int (xt), .int (nI mi), .int (nI mo), .int (nI mw), .ref (md 1), .ref (md 2), .ref (md 3), .int (nI ni), .int (nI no), .ref (md 4), .ref (md 5), .ref (md 6), .int (nI ns), .ref (md 7), .ref (md 8), .int (nI nb), .int (nI wd), .ref (md 9), .long (tp), .long (bl), .long (wt), .long (wb)])), (md 7, aJ g 85 bd), (md 9, aI g 5 (fun j => nI (ch j)))] H → va_D A [(md 0, .inr (4, [.int (xt), .int (nI mi), .int (nI mo), .int (nI mw), .ref (md 1), .ref (md 2), .ref (md 3), .int (nI ni), .int (nI no), .ref (md 4), .ref (md 5), .ref (md 6), .int (nI ns), .ref (md 7), .ref (md 8), .int (nI nb), .int (nI wd), .ref (md 9), .long (tp), .long (bl), .long (wt), .long (wb)])), (md 7, aJ g 85 bd), (md 9, aI g 5 (fun j => nI (ch j)))] → va_S A s.heap H locs → ∀ ls : Array Slot, lv_has ls 9 [(0, .ref (md 0)), (1, .int (nI row)), (2, .int (ot)), (3, .long (sm)), (5, .int (sg)), (6, .int (nI c1))] → W p l e { frames := 4, cells := 0, slots := 0, locals := 112 } s m args below meth c H locs 0 0 Q (F0 m 20 ls []) := by
      intro n
      induction n with
      | zero =>
        intro sm sg c1 hms
        omega
      | succ n ih_20 =>
        intro sm sg c1 hms_20 hc1 hv H locs hP hD hS ls hl
        refine lv_iload hx hb dX4_determinant_20 (lv_at hl 5 rfl) ?_
        refine lv_aload_n hx hb dX4_determinant_22 rfl (lv_at hl 0 rfl) ?_
        refine k_get hx hb hts hown hK hP iw_X4_determinant_X4 rfl 0 16 fm_X4_determinant_70 (by decide) rfl rfl dX4_determinant_23 ?_
        refine lv_icmp_ge (tgt := 101) hx hb dX4_determinant_26 (by decide) (fun c_2 => ?_) (fun c_2 => ?_)
        · skip
          have c_2 := (nI_leI (by omega) (by omega)).mp c_2
          refine lv_lload_n hx hb dX4_determinant_101 rfl (lv_at hl 3 rfl) ?_
          exact ret dX4_determinant_102 () (by rw [hv, show wd - c1 = 0 by omega]; rfl) hP hD hS
        · skip
          have c_2 := mt (nI_leI (by omega) (by omega)).mpr c_2
          refine lv_iload_n hx hb dX4_determinant_29 rfl (lv_at hl 2 rfl) ?_
          refine lv_iload hx hb dX4_determinant_30 (lv_at hl 5 rfl) ?_
          refine lv_ishr hx hb dX4_determinant_32 ?_
          refine lv_iconst (v := nI 1) hx hb dX4_determinant_33 (by decide) ?_
          refine lv_iand hx hb dX4_determinant_34 ?_
          refine lv_iconst (v := nI 1) hx hb dX4_determinant_35 (by decide) ?_
          refine lv_icmp_ne (tgt := 42) hx hb dX4_determinant_36 (by decide) (fun c_3 => ?_) (fun c_3 => ?_)
          · skip
            have hbt := c_3
            refine lv_aload_n hx hb dX4_determinant_42 rfl (lv_at hl 0 rfl) ?_
            refine k_get hx hb hts hown hK hP iw_X4_determinant_X4 rfl 0 13 fm_X4_determinant_37 (by decide) rfl rfl dX4_determinant_43 ?_
            refine lv_iconst (v := nI 5) hx hb dX4_determinant_46 (by decide) ?_
            refine lv_aload_n hx hb dX4_determinant_47 rfl (lv_at hl 0 rfl) ?_
            refine k_get hx hb hts hown hK hP iw_X4_determinant_X4 rfl 0 17 fm_X4_determinant_43 (by decide) rfl rfl dX4_determinant_48 ?_
            refine lv_iload_n hx hb dX4_determinant_51 rfl (lv_at hl 1 rfl) ?_
            refine k_iald hx hb hK hP 2 rfl (by omega) (by omega) dX4_determinant_52 ?_
            refine k_ei (y := nI (ch row)) (rfl) ?_
            refine lv_imul hx hb dX4_determinant_53 ?_
            refine k_ei (y := nI ((ch row) * 5)) ((pk_mul _ _).trans (congrArg nI (Nat.mul_comm _ _))) ?_
            refine lv_iload hx hb dX4_determinant_54 (lv_at hl 5 rfl) ?_
            refine lv_iadd hx hb dX4_determinant_56 ?_
            refine k_ei (y := nI ((ch row) * 5 + c1)) (nI_add _ _) ?_
            refine k_lald hx hb hK hP 1 rfl (by omega) (by omega) dX4_determinant_57 ?_
            refine lv_lstore (lv' := [(7, .long (bd ((ch row) * 5 + c1))), (0, .ref (md 0)), (1, .int (nI row)), (2, .int (ot)), (3, .long (sm)), (5, .int (sg)), (6, .int (nI c1))]) hx hb dX4_determinant_58 hl (by decide) rfl (fun ls hl => ?_)
            refine lv_lload hx hb dX4_determinant_60 (lv_at hl 0 rfl) ?_
            refine lv_lconst (v := 0) hx hb dX4_determinant_62 (by decide) ?_
            refine W.lcmp hx hb dX4_determinant_63 ?_
            refine lv_if_eq (tgt := 90) hx hb dX4_determinant_64 (by decide) (fun c_4 => ?_) (fun c_4 => ?_)
            · skip
              have c_4 := (lc_eq _ _).mp c_4
              have hv2 : dtF bd ch wd 1 row ot = (dtS bd ch row (fun z => dtF bd ch wd 0 (row + 1) z) ot (c1 + 1) (wd - (c1 + 1)) (sm, -sg)).1 := by rw [hv, show wd - c1 = (wd - (c1 + 1)) + 1 by omega, dtS, dtP, if_neg hbt, if_pos c_4]
              refine lv_iload hx hb dX4_determinant_90 (lv_at hl 5 rfl) ?_
              refine lv_ineg hx hb dX4_determinant_92 ?_
              refine lv_istore (lv' := [(5, .int (-sg)), (7, .long (bd ((ch row) * 5 + c1))), (0, .ref (md 0)), (1, .int (nI row)), (2, .int (ot)), (3, .long (sm)), (6, .int (nI c1))]) hx hb dX4_determinant_93 hl (by decide) rfl (fun ls hl => ?_)
              refine lv_iinc (v := nI (c1 + 1)) (lv' := [(6, .int (nI (c1 + 1))), (5, .int (-sg)), (7, .long (bd ((ch row) * 5 + c1))), (0, .ref (md 0)), (1, .int (nI row)), (2, .int (ot)), (3, .long (sm))]) hx hb dX4_determinant_95 hl (k := 6) rfl (nI_inc1 c1) (by decide) rfl (fun ls hl => ?_)
              refine lv_goto (tgt := 20) hx hb dX4_determinant_98 (by decide) ?_
              exact ih_20 sm (-sg) (c1 + 1) (by omega) (by omega) hv2 _ _ hP hD hS ls (lv_sub hl [3, 4, 5, 6, 1, 0] rfl)
            · skip
              have c_4 := mt (lc_eq _ _).mpr c_4
              have hv2 : dtF bd ch wd 1 row ot = (dtS bd ch row (fun z => dtF bd ch wd 0 (row + 1) z) ot (c1 + 1) (wd - (c1 + 1)) (sm + sg.toInt64 * bd (ch row * 5 + c1) * dtF bd ch wd 0 (row + 1) (ot ||| (nI 1 <<< (nI c1 &&& 31))), -sg)).1 := by rw [hv, show wd - c1 = (wd - (c1 + 1)) + 1 by omega, dtS, dtP, if_neg hbt, if_neg c_4]
              refine lv_lload_n hx hb dX4_determinant_67 rfl (lv_at hl 4 rfl) ?_
              refine lv_iload hx hb dX4_determinant_68 (lv_at hl 5 rfl) ?_
              refine lv_i2l hx hb dX4_determinant_70 rfl ?_
              refine lv_lload hx hb dX4_determinant_71 (lv_at hl 0 rfl) ?_
              refine lv_lmul hx hb dX4_determinant_73 ?_
              refine lv_aload_n hx hb dX4_determinant_74 rfl (lv_at hl 1 rfl) ?_
              refine lv_iload_n hx hb dX4_determinant_75 rfl (lv_at hl 2 rfl) ?_
              refine lv_iconst (v := nI 1) hx hb dX4_determinant_76 (by decide) ?_
              refine lv_iadd hx hb dX4_determinant_77 ?_
              refine k_ei (y := nI (row + 1)) (nI_add _ _) ?_
              refine lv_iload_n hx hb dX4_determinant_78 rfl (lv_at hl 3 rfl) ?_
              refine lv_iconst (v := nI 1) hx hb dX4_determinant_79 (by decide) ?_
              refine lv_iload hx hb dX4_determinant_80 (lv_at hl 6 rfl) ?_
              refine lv_ishl hx hb dX4_determinant_82 ?_
              refine lv_ior hx hb dX4_determinant_83 ?_
              refine go_l (wc := [(md 0, .inr (4, [.int (xt), .int (nI mi), .int (nI mo), .int (nI mw), .ref (md 1), .ref (md 2), .ref (md 3), .int (nI ni), .int (nI no), .ref (md 4), .ref (md 5), .ref (md 6), .int (nI ns), .ref (md 7), .ref (md 8), .int (nI nb), .int (nI wd), .ref (md 9), .long (tp), .long (bl), .long (wt), .long (wb)])), (md 7, aJ g 85 bd), (md 9, aI g 5 (fun j => nI (ch j)))]) (wr := []) hP hD hS hA [0, 1, 2] [] rfl rfl rfl rfl (by decide) (fun hPc hDc => rn_V (As := [.int (nI (row + 1)), .int (ot ||| ((nI 1) <<< ((nI c1) &&& 31)))]) (rest := [.long (sg.toInt64 * (bd ((ch row) * 5 + c1))), .long (sm)]) ⟨hx, hb, hml, hown, hts⟩ ((c_X4_det0 l g md xt mi mo mw ni no ns nb wd tp bl wt wb bd ch (row + 1) (ot ||| ((nI 1) <<< ((nI c1) &&& 31))) (by omega) (by omega) hch) _) (cw_X4_determinant_91_0_0 hts hN ⟨Nat.le_of_ble_eq_true rfl, Nat.le_of_ble_eq_true rfl⟩) hK hN hPc hDc 0 rfl rfl rfl rfl hl.1 (Nat.le_of_ble_eq_true rfl) dX4_determinant_84 ⟨Nat.le_of_ble_eq_true rfl, Nat.le_of_ble_eq_true rfl⟩) ?_
              intro r_5 u_6 H locs h_7 hP hD hS
              have hP : va_P g.1 vwCl [(md 0, .inr (4, [.int (xt), .int (nI mi), .int (nI mo), .int (nI mw), .ref (md 1), .ref (md 2), .ref (md 3), .int (nI ni), .int (nI no), .ref (md 4), .ref (md 5), .ref (md 6), .int (nI ns), .ref (md 7), .ref (md 8), .int (nI nb), .int (nI wd), .ref (md 9), .long (tp), .long (bl), .long (wt), .long (wb)])), (md 7, aJ g 85 bd), (md 9, aI g 5 (fun j => nI (ch j)))] H := hP.sub [0, 1, 2] rfl
              have hD : va_D A [(md 0, .inr (4, [.int (xt), .int (nI mi), .int (nI mo), .int (nI mw), .ref (md 1), .ref (md 2), .ref (md 3), .int (nI ni), .int (nI no), .ref (md 4), .ref (md 5), .ref (md 6), .int (nI ns), .ref (md 7), .ref (md 8), .int (nI nb), .int (nI wd), .ref (md 9), .long (tp), .long (bl), .long (wt), .long (wb)])), (md 7, aJ g 85 bd), (md 9, aI g 5 (fun j => nI (ch j)))] := hD.sub [0, 1, 2] rfl rfl
              have h_7 : r_5 = dtF bd ch wd 0 (row + 1) (ot ||| ((nI 1) <<< ((nI c1) &&& 31))) := h_7
              subst h_7
              refine lv_lmul hx hb dX4_determinant_87 ?_
              refine lv_ladd hx hb dX4_determinant_88 ?_
              refine lv_lstore_n (lv' := [(3, .long (sm + ((sg.toInt64 * (bd ((ch row) * 5 + c1))) * (dtF bd ch wd 0 (row + 1) (ot ||| ((nI 1) <<< ((nI c1) &&& 31))))))), (7, .long (bd ((ch row) * 5 + c1))), (0, .ref (md 0)), (1, .int (nI row)), (2, .int (ot)), (5, .int (sg)), (6, .int (nI c1))]) hx hb dX4_determinant_89 rfl hl (by decide) rfl (fun ls hl => ?_)
              refine lv_iload hx hb dX4_determinant_90 (lv_at hl 5 rfl) ?_
              refine lv_ineg hx hb dX4_determinant_92 ?_
              refine lv_istore (lv' := [(5, .int (-sg)), (3, .long (sm + ((sg.toInt64 * (bd ((ch row) * 5 + c1))) * (dtF bd ch wd 0 (row + 1) (ot ||| ((nI 1) <<< ((nI c1) &&& 31))))))), (7, .long (bd ((ch row) * 5 + c1))), (0, .ref (md 0)), (1, .int (nI row)), (2, .int (ot)), (6, .int (nI c1))]) hx hb dX4_determinant_93 hl (by decide) rfl (fun ls hl => ?_)
              refine lv_iinc (v := nI (c1 + 1)) (lv' := [(6, .int (nI (c1 + 1))), (5, .int (-sg)), (3, .long (sm + ((sg.toInt64 * (bd ((ch row) * 5 + c1))) * (dtF bd ch wd 0 (row + 1) (ot ||| ((nI 1) <<< ((nI c1) &&& 31))))))), (7, .long (bd ((ch row) * 5 + c1))), (0, .ref (md 0)), (1, .int (nI row)), (2, .int (ot))]) hx hb dX4_determinant_95 hl (k := 6) rfl (nI_inc1 c1) (by decide) rfl (fun ls hl => ?_)
              refine lv_goto (tgt := 20) hx hb dX4_determinant_98 (by decide) ?_
              exact ih_20 (sm + ((sg.toInt64 * (bd ((ch row) * 5 + c1))) * (dtF bd ch wd 0 (row + 1) (ot ||| ((nI 1) <<< ((nI c1) &&& 31)))))) (-sg) (c1 + 1) (by omega) (by omega) hv2 _ _ hP hD hS ls (lv_sub hl [4, 5, 6, 2, 1, 0] rfl)
          · skip
            have hv2 : dtF bd ch wd 1 row ot = (dtS bd ch row (fun z => dtF bd ch wd 0 (row + 1) z) ot (c1 + 1) (wd - (c1 + 1)) (sm, sg)).1 := by rw [hv, show wd - c1 = (wd - (c1 + 1)) + 1 by omega, dtS, dtP, if_pos c_3]
            refine lv_goto (tgt := 95) hx hb dX4_determinant_39 (by decide) ?_
            refine lv_iinc (v := nI (c1 + 1)) (lv' := [(6, .int (nI (c1 + 1))), (0, .ref (md 0)), (1, .int (nI row)), (2, .int (ot)), (3, .long (sm)), (5, .int (sg))]) hx hb dX4_determinant_95 hl (k := 5) rfl (nI_inc1 c1) (by decide) rfl (fun ls hl => ?_)
            refine lv_goto (tgt := 20) hx hb dX4_determinant_98 (by decide) ?_
            exact ih_20 sm sg (c1 + 1) (by omega) (by omega) hv2 _ _ hP hD hS ls (lv_sub hl [1, 2, 3, 4, 5, 0] rfl)
    exact lp_20 (wd - 0 + 1) 0 (nI 1) 0 (by omega) (by omega) rfl _ _ hP hD hS ls (lv_sub hl [3, 4, 5, 2, 1, 0] rfl)
  · skip
    have c_1 := (nI_eq (by omega) (by omega)).mp c_1
    omega
set_option maxHeartbeats 20000000 in
set_option maxRecDepth 100000 in
theorem c_X4_dtt2 (l : Launch) (g : Gt) (md : Nat → Nat) (xt : Int32) (mi : Nat) (mo : Nat) (mw : Nat) (ni : Nat) (no : Nat) (ns : Nat) (nb : Nat) (wd : Nat) (tp : Int64) (bl : Int64) (wt : Int64) (wb : Int64) (bd : Nat → Int64) (ch : Nat → Nat) (row : Nat) (ot : Int32) (hr : row + 2 + 1 = wd) (hwd : wd ≤ 5) (hch : ∀ j : Nat, j + 1 < wd → ch j < 17) : CL l yX4_determinant wsX4_determinant { frames := 4, cells := 0, slots := 0, locals := 112 } g [.ref (md 0), .int (nI row), .int (ot)] [(md 0, .inr (4, [.int (xt), .int (nI mi), .int (nI mo), .int (nI mw), .ref (md 1), .ref (md 2), .ref (md 3), .int (nI ni), .int (nI no), .ref (md 4), .ref (md 5), .ref (md 6), .int (nI ns), .ref (md 7), .ref (md 8), .int (nI nb), .int (nI wd), .ref (md 9), .long (tp), .long (bl), .long (wt), .long (wb)])), (md 7, aJ g 85 bd), (md 9, aI g 5 (fun j => nI (ch j)))] (fun zr (zu : Unit) => zr = dtF bd ch wd 2 row ot) (fun (zu : Unit) => [(md 0, .inr (4, [.int (xt), .int (nI mi), .int (nI mo), .int (nI mw), .ref (md 1), .ref (md 2), .ref (md 3), .int (nI ni), .int (nI no), .ref (md 4), .ref (md 5), .ref (md 6), .int (nI ns), .ref (md 7), .ref (md 8), .int (nI nb), .int (nI wd), .ref (md 9), .long (tp), .long (bl), .long (wt), .long (wb)])), (md 7, aJ g 85 bd), (md 9, aI g 5 (fun j => nI (ch j)))]) 0 0 := by
  refine ent_l (cc := cX4_determinant) (maxL := 9) (by decide) rfl (Nat.le_of_ble_eq_true rfl) ?_
  intro p e s m below meth c A args Q hE ret ls hl
  obtain ⟨hx, hb, hml, hown, hts, hnm, hA, hP, hD, hK, hN⟩ := hE
  have hS : va_S A s.heap s.heap [] := va_S.rf
  have hl : lv_has ls 9 [(0, .ref (md 0)), (1, .int (nI row)), (2, .int (ot))] := hl
  have hP : va_P g.1 vwCl [(md 0, .inr (4, [.int (xt), .int (nI mi), .int (nI mo), .int (nI mw), .ref (md 1), .ref (md 2), .ref (md 3), .int (nI ni), .int (nI no), .ref (md 4), .ref (md 5), .ref (md 6), .int (nI ns), .ref (md 7), .ref (md 8), .int (nI nb), .int (nI wd), .ref (md 9), .long (tp), .long (bl), .long (wt), .long (wb)])), (md 7, aJ g 85 bd), (md 9, aI g 5 (fun j => nI (ch j)))] s.heap := hP
  have hcr := hch row (by omega)
  refine lv_iload_n hx hb dX4_determinant_0 rfl (lv_at hl 1 rfl) ?_
  refine lv_aload_n hx hb dX4_determinant_1 rfl (lv_at hl 0 rfl) ?_
  refine k_get hx hb hts hown hK hP iw_X4_determinant_X4 rfl 0 16 fm_X4_determinant_70 (by decide) rfl rfl dX4_determinant_2 ?_
  refine lv_iconst (v := nI 1) hx hb dX4_determinant_5 (by decide) ?_
  refine lv_isub hx hb dX4_determinant_6 ?_
  refine k_ei (y := nI (wd - 1)) (pk_sub (by omega)) ?_
  refine lv_icmp_ne (tgt := 12) hx hb dX4_determinant_7 (by decide) (fun c_1 => ?_) (fun c_1 => ?_)
  · skip
    have c_1 := mt (nI_eq (by omega) (by omega)).mpr c_1
    refine lv_lconst (v := 0) hx hb dX4_determinant_12 (by decide) ?_
    refine lv_lstore_n (lv' := [(3, .long (0)), (0, .ref (md 0)), (1, .int (nI row)), (2, .int (ot))]) hx hb dX4_determinant_13 rfl hl (by decide) rfl (fun ls hl => ?_)
    refine lv_iconst (v := nI 1) hx hb dX4_determinant_14 (by decide) ?_
    refine lv_istore (lv' := [(5, .int (nI 1)), (3, .long (0)), (0, .ref (md 0)), (1, .int (nI row)), (2, .int (ot))]) hx hb dX4_determinant_15 hl (by decide) rfl (fun ls hl => ?_)
    refine lv_iconst (v := nI 0) hx hb dX4_determinant_17 (by decide) ?_
    refine lv_istore (lv' := [(6, .int (nI 0)), (5, .int (nI 1)), (3, .long (0)), (0, .ref (md 0)), (1, .int (nI row)), (2, .int (ot))]) hx hb dX4_determinant_18 hl (by decide) rfl (fun ls hl => ?_)
    have lp_20 : ∀ (n : Nat) (sm : Int64) (sg : Int32) (c1 : Nat), wd - c1 < n → c1 ≤ wd → dtF bd ch wd 2 row ot = (dtS bd ch row (fun z => dtF bd ch wd 1 (row + 1) z) ot c1 (wd - c1) (sm, sg)).1 → ∀ (H : Heap) (locs : List Loc), va_P g.1 vwCl [(md 0, .inr (4, [.int (xt), .int (nI mi), .int (nI mo), .int (nI mw), .ref (md 1), .ref (md 2), .ref (md 3), .int (nI ni), .int (nI no), .ref (md 4), .ref (md 5), .ref (md 6), .int (nI ns), .ref (md 7), .ref (md 8), .int (nI nb), .int (nI wd), .ref (md 9), .long (tp), .long (bl), .long (wt), .long (wb)])), (md 7, aJ g 85 bd), (md 9, aI g 5 (fun j => nI (ch j)))] H → va_D A [(md 0, .inr (4, [.int (xt), .int (nI mi), .int (nI mo), .int (nI mw), .ref (md 1), .ref (md 2), .ref (md 3), .int (nI ni), .int (nI no), .ref (md 4), .ref (md 5), .ref (md 6), .int (nI ns), .ref (md 7), .ref (md 8), .int (nI nb), .int (nI wd), .ref (md 9), .long (tp), .long (bl), .long (wt), .long (wb)])), (md 7, aJ g 85 bd), (md 9, aI g 5 (fun j => nI (ch j)))] → va_S A s.heap H locs → ∀ ls : Array Slot, lv_has ls 9 [(0, .ref (md 0)), (1, .int (nI row)), (2, .int (ot)), (3, .long (sm)), (5, .int (sg)), (6, .int (nI c1))] → W p l e { frames := 4, cells := 0, slots := 0, locals := 112 } s m args below meth c H locs 0 0 Q (F0 m 20 ls []) := by
      intro n
      induction n with
      | zero =>
        intro sm sg c1 hms
        omega
      | succ n ih_20 =>
        intro sm sg c1 hms_20 hc1 hv H locs hP hD hS ls hl
        refine lv_iload hx hb dX4_determinant_20 (lv_at hl 5 rfl) ?_
        refine lv_aload_n hx hb dX4_determinant_22 rfl (lv_at hl 0 rfl) ?_
        refine k_get hx hb hts hown hK hP iw_X4_determinant_X4 rfl 0 16 fm_X4_determinant_70 (by decide) rfl rfl dX4_determinant_23 ?_
        refine lv_icmp_ge (tgt := 101) hx hb dX4_determinant_26 (by decide) (fun c_2 => ?_) (fun c_2 => ?_)
        · skip
          have c_2 := (nI_leI (by omega) (by omega)).mp c_2
          refine lv_lload_n hx hb dX4_determinant_101 rfl (lv_at hl 3 rfl) ?_
          exact ret dX4_determinant_102 () (by rw [hv, show wd - c1 = 0 by omega]; rfl) hP hD hS
        · skip
          have c_2 := mt (nI_leI (by omega) (by omega)).mpr c_2
          refine lv_iload_n hx hb dX4_determinant_29 rfl (lv_at hl 2 rfl) ?_
          refine lv_iload hx hb dX4_determinant_30 (lv_at hl 5 rfl) ?_
          refine lv_ishr hx hb dX4_determinant_32 ?_
          refine lv_iconst (v := nI 1) hx hb dX4_determinant_33 (by decide) ?_
          refine lv_iand hx hb dX4_determinant_34 ?_
          refine lv_iconst (v := nI 1) hx hb dX4_determinant_35 (by decide) ?_
          refine lv_icmp_ne (tgt := 42) hx hb dX4_determinant_36 (by decide) (fun c_3 => ?_) (fun c_3 => ?_)
          · skip
            have hbt := c_3
            refine lv_aload_n hx hb dX4_determinant_42 rfl (lv_at hl 0 rfl) ?_
            refine k_get hx hb hts hown hK hP iw_X4_determinant_X4 rfl 0 13 fm_X4_determinant_37 (by decide) rfl rfl dX4_determinant_43 ?_
            refine lv_iconst (v := nI 5) hx hb dX4_determinant_46 (by decide) ?_
            refine lv_aload_n hx hb dX4_determinant_47 rfl (lv_at hl 0 rfl) ?_
            refine k_get hx hb hts hown hK hP iw_X4_determinant_X4 rfl 0 17 fm_X4_determinant_43 (by decide) rfl rfl dX4_determinant_48 ?_
            refine lv_iload_n hx hb dX4_determinant_51 rfl (lv_at hl 1 rfl) ?_
            refine k_iald hx hb hK hP 2 rfl (by omega) (by omega) dX4_determinant_52 ?_
            refine k_ei (y := nI (ch row)) (rfl) ?_
            refine lv_imul hx hb dX4_determinant_53 ?_
            refine k_ei (y := nI ((ch row) * 5)) ((pk_mul _ _).trans (congrArg nI (Nat.mul_comm _ _))) ?_
            refine lv_iload hx hb dX4_determinant_54 (lv_at hl 5 rfl) ?_
            refine lv_iadd hx hb dX4_determinant_56 ?_
            refine k_ei (y := nI ((ch row) * 5 + c1)) (nI_add _ _) ?_
            refine k_lald hx hb hK hP 1 rfl (by omega) (by omega) dX4_determinant_57 ?_
            refine lv_lstore (lv' := [(7, .long (bd ((ch row) * 5 + c1))), (0, .ref (md 0)), (1, .int (nI row)), (2, .int (ot)), (3, .long (sm)), (5, .int (sg)), (6, .int (nI c1))]) hx hb dX4_determinant_58 hl (by decide) rfl (fun ls hl => ?_)
            refine lv_lload hx hb dX4_determinant_60 (lv_at hl 0 rfl) ?_
            refine lv_lconst (v := 0) hx hb dX4_determinant_62 (by decide) ?_
            refine W.lcmp hx hb dX4_determinant_63 ?_
            refine lv_if_eq (tgt := 90) hx hb dX4_determinant_64 (by decide) (fun c_4 => ?_) (fun c_4 => ?_)
            · skip
              have c_4 := (lc_eq _ _).mp c_4
              have hv2 : dtF bd ch wd 2 row ot = (dtS bd ch row (fun z => dtF bd ch wd 1 (row + 1) z) ot (c1 + 1) (wd - (c1 + 1)) (sm, -sg)).1 := by rw [hv, show wd - c1 = (wd - (c1 + 1)) + 1 by omega, dtS, dtP, if_neg hbt, if_pos c_4]
              refine lv_iload hx hb dX4_determinant_90 (lv_at hl 5 rfl) ?_
              refine lv_ineg hx hb dX4_determinant_92 ?_
              refine lv_istore (lv' := [(5, .int (-sg)), (7, .long (bd ((ch row) * 5 + c1))), (0, .ref (md 0)), (1, .int (nI row)), (2, .int (ot)), (3, .long (sm)), (6, .int (nI c1))]) hx hb dX4_determinant_93 hl (by decide) rfl (fun ls hl => ?_)
              refine lv_iinc (v := nI (c1 + 1)) (lv' := [(6, .int (nI (c1 + 1))), (5, .int (-sg)), (7, .long (bd ((ch row) * 5 + c1))), (0, .ref (md 0)), (1, .int (nI row)), (2, .int (ot)), (3, .long (sm))]) hx hb dX4_determinant_95 hl (k := 6) rfl (nI_inc1 c1) (by decide) rfl (fun ls hl => ?_)
              refine lv_goto (tgt := 20) hx hb dX4_determinant_98 (by decide) ?_
              exact ih_20 sm (-sg) (c1 + 1) (by omega) (by omega) hv2 _ _ hP hD hS ls (lv_sub hl [3, 4, 5, 6, 1, 0] rfl)
            · skip
              have c_4 := mt (lc_eq _ _).mpr c_4
              have hv2 : dtF bd ch wd 2 row ot = (dtS bd ch row (fun z => dtF bd ch wd 1 (row + 1) z) ot (c1 + 1) (wd - (c1 + 1)) (sm + sg.toInt64 * bd (ch row * 5 + c1) * dtF bd ch wd 1 (row + 1) (ot ||| (nI 1 <<< (nI c1 &&& 31))), -sg)).1 := by rw [hv, show wd - c1 = (wd - (c1 + 1)) + 1 by omega, dtS, dtP, if_neg hbt, if_neg c_4]
              refine lv_lload_n hx hb dX4_determinant_67 rfl (lv_at hl 4 rfl) ?_
              refine lv_iload hx hb dX4_determinant_68 (lv_at hl 5 rfl) ?_
              refine lv_i2l hx hb dX4_determinant_70 rfl ?_
              refine lv_lload hx hb dX4_determinant_71 (lv_at hl 0 rfl) ?_
              refine lv_lmul hx hb dX4_determinant_73 ?_
              refine lv_aload_n hx hb dX4_determinant_74 rfl (lv_at hl 1 rfl) ?_
              refine lv_iload_n hx hb dX4_determinant_75 rfl (lv_at hl 2 rfl) ?_
              refine lv_iconst (v := nI 1) hx hb dX4_determinant_76 (by decide) ?_
              refine lv_iadd hx hb dX4_determinant_77 ?_
              refine k_ei (y := nI (row + 1)) (nI_add _ _) ?_
              refine lv_iload_n hx hb dX4_determinant_78 rfl (lv_at hl 3 rfl) ?_
              refine lv_iconst (v := nI 1) hx hb dX4_determinant_79 (by decide) ?_
              refine lv_iload hx hb dX4_determinant_80 (lv_at hl 6 rfl) ?_
              refine lv_ishl hx hb dX4_determinant_82 ?_
              refine lv_ior hx hb dX4_determinant_83 ?_
              refine go_l (wc := [(md 0, .inr (4, [.int (xt), .int (nI mi), .int (nI mo), .int (nI mw), .ref (md 1), .ref (md 2), .ref (md 3), .int (nI ni), .int (nI no), .ref (md 4), .ref (md 5), .ref (md 6), .int (nI ns), .ref (md 7), .ref (md 8), .int (nI nb), .int (nI wd), .ref (md 9), .long (tp), .long (bl), .long (wt), .long (wb)])), (md 7, aJ g 85 bd), (md 9, aI g 5 (fun j => nI (ch j)))]) (wr := []) hP hD hS hA [0, 1, 2] [] rfl rfl rfl rfl (by decide) (fun hPc hDc => rn_V (As := [.int (nI (row + 1)), .int (ot ||| ((nI 1) <<< ((nI c1) &&& 31)))]) (rest := [.long (sg.toInt64 * (bd ((ch row) * 5 + c1))), .long (sm)]) ⟨hx, hb, hml, hown, hts⟩ ((c_X4_det1 l g md xt mi mo mw ni no ns nb wd tp bl wt wb bd ch (row + 1) (ot ||| ((nI 1) <<< ((nI c1) &&& 31))) (by omega) (by omega) hch) _) (cw_X4_determinant_91_1_28 hts hN ⟨Nat.le_of_ble_eq_true rfl, Nat.le_of_ble_eq_true rfl⟩) hK hN hPc hDc 0 rfl rfl rfl rfl hl.1 (Nat.le_of_ble_eq_true rfl) dX4_determinant_84 ⟨Nat.le_of_ble_eq_true rfl, Nat.le_of_ble_eq_true rfl⟩) ?_
              intro r_5 u_6 H locs h_7 hP hD hS
              have hP : va_P g.1 vwCl [(md 0, .inr (4, [.int (xt), .int (nI mi), .int (nI mo), .int (nI mw), .ref (md 1), .ref (md 2), .ref (md 3), .int (nI ni), .int (nI no), .ref (md 4), .ref (md 5), .ref (md 6), .int (nI ns), .ref (md 7), .ref (md 8), .int (nI nb), .int (nI wd), .ref (md 9), .long (tp), .long (bl), .long (wt), .long (wb)])), (md 7, aJ g 85 bd), (md 9, aI g 5 (fun j => nI (ch j)))] H := hP.sub [0, 1, 2] rfl
              have hD : va_D A [(md 0, .inr (4, [.int (xt), .int (nI mi), .int (nI mo), .int (nI mw), .ref (md 1), .ref (md 2), .ref (md 3), .int (nI ni), .int (nI no), .ref (md 4), .ref (md 5), .ref (md 6), .int (nI ns), .ref (md 7), .ref (md 8), .int (nI nb), .int (nI wd), .ref (md 9), .long (tp), .long (bl), .long (wt), .long (wb)])), (md 7, aJ g 85 bd), (md 9, aI g 5 (fun j => nI (ch j)))] := hD.sub [0, 1, 2] rfl rfl
              have h_7 : r_5 = dtF bd ch wd 1 (row + 1) (ot ||| ((nI 1) <<< ((nI c1) &&& 31))) := h_7
              subst h_7
              refine lv_lmul hx hb dX4_determinant_87 ?_
              refine lv_ladd hx hb dX4_determinant_88 ?_
              refine lv_lstore_n (lv' := [(3, .long (sm + ((sg.toInt64 * (bd ((ch row) * 5 + c1))) * (dtF bd ch wd 1 (row + 1) (ot ||| ((nI 1) <<< ((nI c1) &&& 31))))))), (7, .long (bd ((ch row) * 5 + c1))), (0, .ref (md 0)), (1, .int (nI row)), (2, .int (ot)), (5, .int (sg)), (6, .int (nI c1))]) hx hb dX4_determinant_89 rfl hl (by decide) rfl (fun ls hl => ?_)
              refine lv_iload hx hb dX4_determinant_90 (lv_at hl 5 rfl) ?_
              refine lv_ineg hx hb dX4_determinant_92 ?_
              refine lv_istore (lv' := [(5, .int (-sg)), (3, .long (sm + ((sg.toInt64 * (bd ((ch row) * 5 + c1))) * (dtF bd ch wd 1 (row + 1) (ot ||| ((nI 1) <<< ((nI c1) &&& 31))))))), (7, .long (bd ((ch row) * 5 + c1))), (0, .ref (md 0)), (1, .int (nI row)), (2, .int (ot)), (6, .int (nI c1))]) hx hb dX4_determinant_93 hl (by decide) rfl (fun ls hl => ?_)
              refine lv_iinc (v := nI (c1 + 1)) (lv' := [(6, .int (nI (c1 + 1))), (5, .int (-sg)), (3, .long (sm + ((sg.toInt64 * (bd ((ch row) * 5 + c1))) * (dtF bd ch wd 1 (row + 1) (ot ||| ((nI 1) <<< ((nI c1) &&& 31))))))), (7, .long (bd ((ch row) * 5 + c1))), (0, .ref (md 0)), (1, .int (nI row)), (2, .int (ot))]) hx hb dX4_determinant_95 hl (k := 6) rfl (nI_inc1 c1) (by decide) rfl (fun ls hl => ?_)
              refine lv_goto (tgt := 20) hx hb dX4_determinant_98 (by decide) ?_
              exact ih_20 (sm + ((sg.toInt64 * (bd ((ch row) * 5 + c1))) * (dtF bd ch wd 1 (row + 1) (ot ||| ((nI 1) <<< ((nI c1) &&& 31)))))) (-sg) (c1 + 1) (by omega) (by omega) hv2 _ _ hP hD hS ls (lv_sub hl [4, 5, 6, 2, 1, 0] rfl)
          · skip
            have hv2 : dtF bd ch wd 2 row ot = (dtS bd ch row (fun z => dtF bd ch wd 1 (row + 1) z) ot (c1 + 1) (wd - (c1 + 1)) (sm, sg)).1 := by rw [hv, show wd - c1 = (wd - (c1 + 1)) + 1 by omega, dtS, dtP, if_pos c_3]
            refine lv_goto (tgt := 95) hx hb dX4_determinant_39 (by decide) ?_
            refine lv_iinc (v := nI (c1 + 1)) (lv' := [(6, .int (nI (c1 + 1))), (0, .ref (md 0)), (1, .int (nI row)), (2, .int (ot)), (3, .long (sm)), (5, .int (sg))]) hx hb dX4_determinant_95 hl (k := 5) rfl (nI_inc1 c1) (by decide) rfl (fun ls hl => ?_)
            refine lv_goto (tgt := 20) hx hb dX4_determinant_98 (by decide) ?_
            exact ih_20 sm sg (c1 + 1) (by omega) (by omega) hv2 _ _ hP hD hS ls (lv_sub hl [1, 2, 3, 4, 5, 0] rfl)
    exact lp_20 (wd - 0 + 1) 0 (nI 1) 0 (by omega) (by omega) rfl _ _ hP hD hS ls (lv_sub hl [3, 4, 5, 2, 1, 0] rfl)
  · skip
    have c_1 := (nI_eq (by omega) (by omega)).mp c_1
    omega
set_option maxHeartbeats 20000000 in
set_option maxRecDepth 100000 in
theorem c_X4_dtt3 (l : Launch) (g : Gt) (md : Nat → Nat) (xt : Int32) (mi : Nat) (mo : Nat) (mw : Nat) (ni : Nat) (no : Nat) (ns : Nat) (nb : Nat) (wd : Nat) (tp : Int64) (bl : Int64) (wt : Int64) (wb : Int64) (bd : Nat → Int64) (ch : Nat → Nat) (row : Nat) (ot : Int32) (hr : row + 3 + 1 = wd) (hwd : wd ≤ 5) (hch : ∀ j : Nat, j + 1 < wd → ch j < 17) : CL l yX4_determinant wsX4_determinant { frames := 4, cells := 0, slots := 0, locals := 112 } g [.ref (md 0), .int (nI row), .int (ot)] [(md 0, .inr (4, [.int (xt), .int (nI mi), .int (nI mo), .int (nI mw), .ref (md 1), .ref (md 2), .ref (md 3), .int (nI ni), .int (nI no), .ref (md 4), .ref (md 5), .ref (md 6), .int (nI ns), .ref (md 7), .ref (md 8), .int (nI nb), .int (nI wd), .ref (md 9), .long (tp), .long (bl), .long (wt), .long (wb)])), (md 7, aJ g 85 bd), (md 9, aI g 5 (fun j => nI (ch j)))] (fun zr (zu : Unit) => zr = dtF bd ch wd 3 row ot) (fun (zu : Unit) => [(md 0, .inr (4, [.int (xt), .int (nI mi), .int (nI mo), .int (nI mw), .ref (md 1), .ref (md 2), .ref (md 3), .int (nI ni), .int (nI no), .ref (md 4), .ref (md 5), .ref (md 6), .int (nI ns), .ref (md 7), .ref (md 8), .int (nI nb), .int (nI wd), .ref (md 9), .long (tp), .long (bl), .long (wt), .long (wb)])), (md 7, aJ g 85 bd), (md 9, aI g 5 (fun j => nI (ch j)))]) 0 0 := by
  refine ent_l (cc := cX4_determinant) (maxL := 9) (by decide) rfl (Nat.le_of_ble_eq_true rfl) ?_
  intro p e s m below meth c A args Q hE ret ls hl
  obtain ⟨hx, hb, hml, hown, hts, hnm, hA, hP, hD, hK, hN⟩ := hE
  have hS : va_S A s.heap s.heap [] := va_S.rf
  have hl : lv_has ls 9 [(0, .ref (md 0)), (1, .int (nI row)), (2, .int (ot))] := hl
  have hP : va_P g.1 vwCl [(md 0, .inr (4, [.int (xt), .int (nI mi), .int (nI mo), .int (nI mw), .ref (md 1), .ref (md 2), .ref (md 3), .int (nI ni), .int (nI no), .ref (md 4), .ref (md 5), .ref (md 6), .int (nI ns), .ref (md 7), .ref (md 8), .int (nI nb), .int (nI wd), .ref (md 9), .long (tp), .long (bl), .long (wt), .long (wb)])), (md 7, aJ g 85 bd), (md 9, aI g 5 (fun j => nI (ch j)))] s.heap := hP
  have hcr := hch row (by omega)
  refine lv_iload_n hx hb dX4_determinant_0 rfl (lv_at hl 1 rfl) ?_
  refine lv_aload_n hx hb dX4_determinant_1 rfl (lv_at hl 0 rfl) ?_
  refine k_get hx hb hts hown hK hP iw_X4_determinant_X4 rfl 0 16 fm_X4_determinant_70 (by decide) rfl rfl dX4_determinant_2 ?_
  refine lv_iconst (v := nI 1) hx hb dX4_determinant_5 (by decide) ?_
  refine lv_isub hx hb dX4_determinant_6 ?_
  refine k_ei (y := nI (wd - 1)) (pk_sub (by omega)) ?_
  refine lv_icmp_ne (tgt := 12) hx hb dX4_determinant_7 (by decide) (fun c_1 => ?_) (fun c_1 => ?_)
  · skip
    have c_1 := mt (nI_eq (by omega) (by omega)).mpr c_1
    refine lv_lconst (v := 0) hx hb dX4_determinant_12 (by decide) ?_
    refine lv_lstore_n (lv' := [(3, .long (0)), (0, .ref (md 0)), (1, .int (nI row)), (2, .int (ot))]) hx hb dX4_determinant_13 rfl hl (by decide) rfl (fun ls hl => ?_)
    refine lv_iconst (v := nI 1) hx hb dX4_determinant_14 (by decide) ?_
    refine lv_istore (lv' := [(5, .int (nI 1)), (3, .long (0)), (0, .ref (md 0)), (1, .int (nI row)), (2, .int (ot))]) hx hb dX4_determinant_15 hl (by decide) rfl (fun ls hl => ?_)
    refine lv_iconst (v := nI 0) hx hb dX4_determinant_17 (by decide) ?_
    refine lv_istore (lv' := [(6, .int (nI 0)), (5, .int (nI 1)), (3, .long (0)), (0, .ref (md 0)), (1, .int (nI row)), (2, .int (ot))]) hx hb dX4_determinant_18 hl (by decide) rfl (fun ls hl => ?_)
    have lp_20 : ∀ (n : Nat) (sm : Int64) (sg : Int32) (c1 : Nat), wd - c1 < n → c1 ≤ wd → dtF bd ch wd 3 row ot = (dtS bd ch row (fun z => dtF bd ch wd 2 (row + 1) z) ot c1 (wd - c1) (sm, sg)).1 → ∀ (H : Heap) (locs : List Loc), va_P g.1 vwCl [(md 0, .inr (4, [.int (xt), .int (nI mi), .int (nI mo), .int (nI mw), .ref (md 1), .ref (md 2), .ref (md 3), .int (nI ni), .int (nI no), .ref (md 4), .ref (md 5), .ref (md 6), .int (nI ns), .ref (md 7), .ref (md 8), .int (nI nb), .int (nI wd), .ref (md 9), .long (tp), .long (bl), .long (wt), .long (wb)])), (md 7, aJ g 85 bd), (md 9, aI g 5 (fun j => nI (ch j)))] H → va_D A [(md 0, .inr (4, [.int (xt), .int (nI mi), .int (nI mo), .int (nI mw), .ref (md 1), .ref (md 2), .ref (md 3), .int (nI ni), .int (nI no), .ref (md 4), .ref (md 5), .ref (md 6), .int (nI ns), .ref (md 7), .ref (md 8), .int (nI nb), .int (nI wd), .ref (md 9), .long (tp), .long (bl), .long (wt), .long (wb)])), (md 7, aJ g 85 bd), (md 9, aI g 5 (fun j => nI (ch j)))] → va_S A s.heap H locs → ∀ ls : Array Slot, lv_has ls 9 [(0, .ref (md 0)), (1, .int (nI row)), (2, .int (ot)), (3, .long (sm)), (5, .int (sg)), (6, .int (nI c1))] → W p l e { frames := 4, cells := 0, slots := 0, locals := 112 } s m args below meth c H locs 0 0 Q (F0 m 20 ls []) := by
      intro n
      induction n with
      | zero =>
        intro sm sg c1 hms
        omega
      | succ n ih_20 =>
        intro sm sg c1 hms_20 hc1 hv H locs hP hD hS ls hl
        refine lv_iload hx hb dX4_determinant_20 (lv_at hl 5 rfl) ?_
        refine lv_aload_n hx hb dX4_determinant_22 rfl (lv_at hl 0 rfl) ?_
        refine k_get hx hb hts hown hK hP iw_X4_determinant_X4 rfl 0 16 fm_X4_determinant_70 (by decide) rfl rfl dX4_determinant_23 ?_
        refine lv_icmp_ge (tgt := 101) hx hb dX4_determinant_26 (by decide) (fun c_2 => ?_) (fun c_2 => ?_)
        · skip
          have c_2 := (nI_leI (by omega) (by omega)).mp c_2
          refine lv_lload_n hx hb dX4_determinant_101 rfl (lv_at hl 3 rfl) ?_
          exact ret dX4_determinant_102 () (by rw [hv, show wd - c1 = 0 by omega]; rfl) hP hD hS
        · skip
          have c_2 := mt (nI_leI (by omega) (by omega)).mpr c_2
          refine lv_iload_n hx hb dX4_determinant_29 rfl (lv_at hl 2 rfl) ?_
          refine lv_iload hx hb dX4_determinant_30 (lv_at hl 5 rfl) ?_
          refine lv_ishr hx hb dX4_determinant_32 ?_
          refine lv_iconst (v := nI 1) hx hb dX4_determinant_33 (by decide) ?_
          refine lv_iand hx hb dX4_determinant_34 ?_
          refine lv_iconst (v := nI 1) hx hb dX4_determinant_35 (by decide) ?_
          refine lv_icmp_ne (tgt := 42) hx hb dX4_determinant_36 (by decide) (fun c_3 => ?_) (fun c_3 => ?_)
          · skip
            have hbt := c_3
            refine lv_aload_n hx hb dX4_determinant_42 rfl (lv_at hl 0 rfl) ?_
            refine k_get hx hb hts hown hK hP iw_X4_determinant_X4 rfl 0 13 fm_X4_determinant_37 (by decide) rfl rfl dX4_determinant_43 ?_
            refine lv_iconst (v := nI 5) hx hb dX4_determinant_46 (by decide) ?_
            refine lv_aload_n hx hb dX4_determinant_47 rfl (lv_at hl 0 rfl) ?_
            refine k_get hx hb hts hown hK hP iw_X4_determinant_X4 rfl 0 17 fm_X4_determinant_43 (by decide) rfl rfl dX4_determinant_48 ?_
            refine lv_iload_n hx hb dX4_determinant_51 rfl (lv_at hl 1 rfl) ?_
            refine k_iald hx hb hK hP 2 rfl (by omega) (by omega) dX4_determinant_52 ?_
            refine k_ei (y := nI (ch row)) (rfl) ?_
            refine lv_imul hx hb dX4_determinant_53 ?_
            refine k_ei (y := nI ((ch row) * 5)) ((pk_mul _ _).trans (congrArg nI (Nat.mul_comm _ _))) ?_
            refine lv_iload hx hb dX4_determinant_54 (lv_at hl 5 rfl) ?_
            refine lv_iadd hx hb dX4_determinant_56 ?_
            refine k_ei (y := nI ((ch row) * 5 + c1)) (nI_add _ _) ?_
            refine k_lald hx hb hK hP 1 rfl (by omega) (by omega) dX4_determinant_57 ?_
            refine lv_lstore (lv' := [(7, .long (bd ((ch row) * 5 + c1))), (0, .ref (md 0)), (1, .int (nI row)), (2, .int (ot)), (3, .long (sm)), (5, .int (sg)), (6, .int (nI c1))]) hx hb dX4_determinant_58 hl (by decide) rfl (fun ls hl => ?_)
            refine lv_lload hx hb dX4_determinant_60 (lv_at hl 0 rfl) ?_
            refine lv_lconst (v := 0) hx hb dX4_determinant_62 (by decide) ?_
            refine W.lcmp hx hb dX4_determinant_63 ?_
            refine lv_if_eq (tgt := 90) hx hb dX4_determinant_64 (by decide) (fun c_4 => ?_) (fun c_4 => ?_)
            · skip
              have c_4 := (lc_eq _ _).mp c_4
              have hv2 : dtF bd ch wd 3 row ot = (dtS bd ch row (fun z => dtF bd ch wd 2 (row + 1) z) ot (c1 + 1) (wd - (c1 + 1)) (sm, -sg)).1 := by rw [hv, show wd - c1 = (wd - (c1 + 1)) + 1 by omega, dtS, dtP, if_neg hbt, if_pos c_4]
              refine lv_iload hx hb dX4_determinant_90 (lv_at hl 5 rfl) ?_
              refine lv_ineg hx hb dX4_determinant_92 ?_
              refine lv_istore (lv' := [(5, .int (-sg)), (7, .long (bd ((ch row) * 5 + c1))), (0, .ref (md 0)), (1, .int (nI row)), (2, .int (ot)), (3, .long (sm)), (6, .int (nI c1))]) hx hb dX4_determinant_93 hl (by decide) rfl (fun ls hl => ?_)
              refine lv_iinc (v := nI (c1 + 1)) (lv' := [(6, .int (nI (c1 + 1))), (5, .int (-sg)), (7, .long (bd ((ch row) * 5 + c1))), (0, .ref (md 0)), (1, .int (nI row)), (2, .int (ot)), (3, .long (sm))]) hx hb dX4_determinant_95 hl (k := 6) rfl (nI_inc1 c1) (by decide) rfl (fun ls hl => ?_)
              refine lv_goto (tgt := 20) hx hb dX4_determinant_98 (by decide) ?_
              exact ih_20 sm (-sg) (c1 + 1) (by omega) (by omega) hv2 _ _ hP hD hS ls (lv_sub hl [3, 4, 5, 6, 1, 0] rfl)
            · skip
              have c_4 := mt (lc_eq _ _).mpr c_4
              have hv2 : dtF bd ch wd 3 row ot = (dtS bd ch row (fun z => dtF bd ch wd 2 (row + 1) z) ot (c1 + 1) (wd - (c1 + 1)) (sm + sg.toInt64 * bd (ch row * 5 + c1) * dtF bd ch wd 2 (row + 1) (ot ||| (nI 1 <<< (nI c1 &&& 31))), -sg)).1 := by rw [hv, show wd - c1 = (wd - (c1 + 1)) + 1 by omega, dtS, dtP, if_neg hbt, if_neg c_4]
              refine lv_lload_n hx hb dX4_determinant_67 rfl (lv_at hl 4 rfl) ?_
              refine lv_iload hx hb dX4_determinant_68 (lv_at hl 5 rfl) ?_
              refine lv_i2l hx hb dX4_determinant_70 rfl ?_
              refine lv_lload hx hb dX4_determinant_71 (lv_at hl 0 rfl) ?_
              refine lv_lmul hx hb dX4_determinant_73 ?_
              refine lv_aload_n hx hb dX4_determinant_74 rfl (lv_at hl 1 rfl) ?_
              refine lv_iload_n hx hb dX4_determinant_75 rfl (lv_at hl 2 rfl) ?_
              refine lv_iconst (v := nI 1) hx hb dX4_determinant_76 (by decide) ?_
              refine lv_iadd hx hb dX4_determinant_77 ?_
              refine k_ei (y := nI (row + 1)) (nI_add _ _) ?_
              refine lv_iload_n hx hb dX4_determinant_78 rfl (lv_at hl 3 rfl) ?_
              refine lv_iconst (v := nI 1) hx hb dX4_determinant_79 (by decide) ?_
              refine lv_iload hx hb dX4_determinant_80 (lv_at hl 6 rfl) ?_
              refine lv_ishl hx hb dX4_determinant_82 ?_
              refine lv_ior hx hb dX4_determinant_83 ?_
              refine go_l (wc := [(md 0, .inr (4, [.int (xt), .int (nI mi), .int (nI mo), .int (nI mw), .ref (md 1), .ref (md 2), .ref (md 3), .int (nI ni), .int (nI no), .ref (md 4), .ref (md 5), .ref (md 6), .int (nI ns), .ref (md 7), .ref (md 8), .int (nI nb), .int (nI wd), .ref (md 9), .long (tp), .long (bl), .long (wt), .long (wb)])), (md 7, aJ g 85 bd), (md 9, aI g 5 (fun j => nI (ch j)))]) (wr := []) hP hD hS hA [0, 1, 2] [] rfl rfl rfl rfl (by decide) (fun hPc hDc => rn_V (As := [.int (nI (row + 1)), .int (ot ||| ((nI 1) <<< ((nI c1) &&& 31)))]) (rest := [.long (sg.toInt64 * (bd ((ch row) * 5 + c1))), .long (sm)]) ⟨hx, hb, hml, hown, hts⟩ ((c_X4_det2 l g md xt mi mo mw ni no ns nb wd tp bl wt wb bd ch (row + 1) (ot ||| ((nI 1) <<< ((nI c1) &&& 31))) (by omega) (by omega) hch) _) (cw_X4_determinant_91_2_56 hts hN ⟨Nat.le_of_ble_eq_true rfl, Nat.le_of_ble_eq_true rfl⟩) hK hN hPc hDc 0 rfl rfl rfl rfl hl.1 (Nat.le_of_ble_eq_true rfl) dX4_determinant_84 ⟨Nat.le_of_ble_eq_true rfl, Nat.le_of_ble_eq_true rfl⟩) ?_
              intro r_5 u_6 H locs h_7 hP hD hS
              have hP : va_P g.1 vwCl [(md 0, .inr (4, [.int (xt), .int (nI mi), .int (nI mo), .int (nI mw), .ref (md 1), .ref (md 2), .ref (md 3), .int (nI ni), .int (nI no), .ref (md 4), .ref (md 5), .ref (md 6), .int (nI ns), .ref (md 7), .ref (md 8), .int (nI nb), .int (nI wd), .ref (md 9), .long (tp), .long (bl), .long (wt), .long (wb)])), (md 7, aJ g 85 bd), (md 9, aI g 5 (fun j => nI (ch j)))] H := hP.sub [0, 1, 2] rfl
              have hD : va_D A [(md 0, .inr (4, [.int (xt), .int (nI mi), .int (nI mo), .int (nI mw), .ref (md 1), .ref (md 2), .ref (md 3), .int (nI ni), .int (nI no), .ref (md 4), .ref (md 5), .ref (md 6), .int (nI ns), .ref (md 7), .ref (md 8), .int (nI nb), .int (nI wd), .ref (md 9), .long (tp), .long (bl), .long (wt), .long (wb)])), (md 7, aJ g 85 bd), (md 9, aI g 5 (fun j => nI (ch j)))] := hD.sub [0, 1, 2] rfl rfl
              have h_7 : r_5 = dtF bd ch wd 2 (row + 1) (ot ||| ((nI 1) <<< ((nI c1) &&& 31))) := h_7
              subst h_7
              refine lv_lmul hx hb dX4_determinant_87 ?_
              refine lv_ladd hx hb dX4_determinant_88 ?_
              refine lv_lstore_n (lv' := [(3, .long (sm + ((sg.toInt64 * (bd ((ch row) * 5 + c1))) * (dtF bd ch wd 2 (row + 1) (ot ||| ((nI 1) <<< ((nI c1) &&& 31))))))), (7, .long (bd ((ch row) * 5 + c1))), (0, .ref (md 0)), (1, .int (nI row)), (2, .int (ot)), (5, .int (sg)), (6, .int (nI c1))]) hx hb dX4_determinant_89 rfl hl (by decide) rfl (fun ls hl => ?_)
              refine lv_iload hx hb dX4_determinant_90 (lv_at hl 5 rfl) ?_
              refine lv_ineg hx hb dX4_determinant_92 ?_
              refine lv_istore (lv' := [(5, .int (-sg)), (3, .long (sm + ((sg.toInt64 * (bd ((ch row) * 5 + c1))) * (dtF bd ch wd 2 (row + 1) (ot ||| ((nI 1) <<< ((nI c1) &&& 31))))))), (7, .long (bd ((ch row) * 5 + c1))), (0, .ref (md 0)), (1, .int (nI row)), (2, .int (ot)), (6, .int (nI c1))]) hx hb dX4_determinant_93 hl (by decide) rfl (fun ls hl => ?_)
              refine lv_iinc (v := nI (c1 + 1)) (lv' := [(6, .int (nI (c1 + 1))), (5, .int (-sg)), (3, .long (sm + ((sg.toInt64 * (bd ((ch row) * 5 + c1))) * (dtF bd ch wd 2 (row + 1) (ot ||| ((nI 1) <<< ((nI c1) &&& 31))))))), (7, .long (bd ((ch row) * 5 + c1))), (0, .ref (md 0)), (1, .int (nI row)), (2, .int (ot))]) hx hb dX4_determinant_95 hl (k := 6) rfl (nI_inc1 c1) (by decide) rfl (fun ls hl => ?_)
              refine lv_goto (tgt := 20) hx hb dX4_determinant_98 (by decide) ?_
              exact ih_20 (sm + ((sg.toInt64 * (bd ((ch row) * 5 + c1))) * (dtF bd ch wd 2 (row + 1) (ot ||| ((nI 1) <<< ((nI c1) &&& 31)))))) (-sg) (c1 + 1) (by omega) (by omega) hv2 _ _ hP hD hS ls (lv_sub hl [4, 5, 6, 2, 1, 0] rfl)
          · skip
            have hv2 : dtF bd ch wd 3 row ot = (dtS bd ch row (fun z => dtF bd ch wd 2 (row + 1) z) ot (c1 + 1) (wd - (c1 + 1)) (sm, sg)).1 := by rw [hv, show wd - c1 = (wd - (c1 + 1)) + 1 by omega, dtS, dtP, if_pos c_3]
            refine lv_goto (tgt := 95) hx hb dX4_determinant_39 (by decide) ?_
            refine lv_iinc (v := nI (c1 + 1)) (lv' := [(6, .int (nI (c1 + 1))), (0, .ref (md 0)), (1, .int (nI row)), (2, .int (ot)), (3, .long (sm)), (5, .int (sg))]) hx hb dX4_determinant_95 hl (k := 5) rfl (nI_inc1 c1) (by decide) rfl (fun ls hl => ?_)
            refine lv_goto (tgt := 20) hx hb dX4_determinant_98 (by decide) ?_
            exact ih_20 sm sg (c1 + 1) (by omega) (by omega) hv2 _ _ hP hD hS ls (lv_sub hl [1, 2, 3, 4, 5, 0] rfl)
    exact lp_20 (wd - 0 + 1) 0 (nI 1) 0 (by omega) (by omega) rfl _ _ hP hD hS ls (lv_sub hl [3, 4, 5, 2, 1, 0] rfl)
  · skip
    have c_1 := (nI_eq (by omega) (by omega)).mp c_1
    omega
theorem c_X4_detT (l : Launch) (g : Gt) (md : Nat → Nat) (xt : Int32) (mi : Nat) (mo : Nat) (mw : Nat) (ni : Nat) (no : Nat) (ns : Nat) (nb : Nat) (wd : Nat) (tp : Int64) (bl : Int64) (wt : Int64) (wb : Int64) (bd : Nat → Int64) (ch : Nat → Nat) (ot : Int32) (hw2 : 2 ≤ wd) (hwd : wd ≤ 5) (hch : ∀ j : Nat, j + 1 < wd → ch j < 17) : CL l yX4_determinant wsX4_determinant { frames := 4, cells := 0, slots := 0, locals := 112 } g [.ref (md 0), .int (nI 0), .int (ot)] [(md 0, .inr (4, [.int (xt), .int (nI mi), .int (nI mo), .int (nI mw), .ref (md 1), .ref (md 2), .ref (md 3), .int (nI ni), .int (nI no), .ref (md 4), .ref (md 5), .ref (md 6), .int (nI ns), .ref (md 7), .ref (md 8), .int (nI nb), .int (nI wd), .ref (md 9), .long (tp), .long (bl), .long (wt), .long (wb)])), (md 7, aJ g 85 bd), (md 9, aI g 5 (fun j => nI (ch j)))] (fun zr (zu : Unit) => zr = dtF bd ch wd (wd - 1) 0 ot) (fun (zu : Unit) => [(md 0, .inr (4, [.int (xt), .int (nI mi), .int (nI mo), .int (nI mw), .ref (md 1), .ref (md 2), .ref (md 3), .int (nI ni), .int (nI no), .ref (md 4), .ref (md 5), .ref (md 6), .int (nI ns), .ref (md 7), .ref (md 8), .int (nI nb), .int (nI wd), .ref (md 9), .long (tp), .long (bl), .long (wt), .long (wb)])), (md 7, aJ g 85 bd), (md 9, aI g 5 (fun j => nI (ch j)))]) 0 0 := by
  rcases (show wd = 2 ∨ wd = 3 ∨ wd = 4 ∨ wd = 5 by omega) with rfl | rfl | rfl | rfl
  · exact c_X4_dtt1 l g md xt mi mo mw ni no ns nb 2 tp bl wt wb bd ch 0 ot (by omega) (by omega) hch
  · exact c_X4_dtt2 l g md xt mi mo mw ni no ns nb 3 tp bl wt wb bd ch 0 ot (by omega) (by omega) hch
  · exact c_X4_dtt3 l g md xt mi mo mw ni no ns nb 4 tp bl wt wb bd ch 0 ot (by omega) (by omega) hch
  · exact c_X4_det4 l g md xt mi mo mw ni no ns nb 5 tp bl wt wb bd ch 0 ot (by omega) (by omega) hch
