def anB (am : Nat → Int32) (k : Nat) : Nat → Bool → Bool
  | 0, q => q
  | n + 1, q => anB am (k + 1) n (q || !decide (am k = 0))
def ofS (nu : Nat → Int32) (j w k : Nat) (q : Int64 × Int64) : Int64 × Int64 := if 0 < (nu (w * 4 + k)).toInt64 ∧ q.1 * (nu (w * 4 + k)).toInt64 < (nu (j * 4 + k)).toInt64 * q.2 then ((nu (j * 4 + k)).toInt64, (nu (w * 4 + k)).toInt64) else q
def ofI (nu : Nat → Int32) (j w k : Nat) : Nat → Int64 × Int64 → Bool × Int64 × Int64
  | 0, q => (true, q)
  | n + 1, q => if (nu (w * 4 + k)).toInt64 = 0 ∧ 0 < (nu (j * 4 + k)).toInt64 then (false, q) else ofI nu j w (k + 1) n (ofS nu j w k q)
/-- one work alone for another: whether it gives enough, and by which share -/
def oneF (nu : Nat → Int32) (ni no j w : Nat) (q : Int64 × Int64) : Bool × Int64 × Int64 := if fitO nu j w ni no = true then ofI nu j w 0 ni (0, 1) else (false, q)
abbrev WS : Type := Bool × Int64 × Int64 × Int64 × Int64
def whE (any : Bool) (tp bl : Int64) (r : Bool × Int64 × Int64) : WS := if r.1 = false ∨ (any = true ∧ ¬ r.2.1 * bl < tp * r.2.2) then (any, tp, bl, r.2) else (true, r.2.1, r.2.2, r.2)
def whS (nu am : Nat → Int32) (ni no w j : Nat) (q : WS) : WS := if am j = 0 then q else whE q.1 q.2.1 q.2.2.1 (oneF nu ni no j w q.2.2.2)
def whF (nu am : Nat → Int32) (ni no w j : Nat) : Nat → WS → WS
  | 0, q => q
  | n + 1, q => whF nu am ni no w (j + 1) n (whS nu am ni no w j q)
def shS (sd : Nat → Int64) (nu : Nat → Int32) (ni no w i : Nat) (q : Int64 × Int64) : Int64 × Int64 := if 0 < insW sd nu i w ni ∧ q.1 * insW sd nu i w ni < outsW sd nu i w 4 ni no * q.2 then (outsW sd nu i w 4 ni no, insW sd nu i w ni) else q
def shL (sd : Nat → Int64) (nu : Nat → Int32) (ni no w i : Nat) : Nat → Int64 × Int64 → Bool × Int64 × Int64
  | 0, q => (true, q)
  | n + 1, q => if insW sd nu i w ni = 0 ∧ 0 < outsW sd nu i w 4 ni no then (false, q) else shL sd nu ni no w (i + 1) n (shS sd nu ni no w i q)
/-- the sides of a view, as the reference has made them -/
def mOK (nu am : Nat → Int32) (ni no mw v ns : Nat) (sd : Nat → Int64) : Prop := ∃ (bd : Nat → Int64) (ch : Nat → Nat) (wy sd0 : Nat → Int64), (asF (bnF nu am ni no mw v bd).1 (bnF nu am ni no mw v bd).2 (bnW v (ni + no)) (ni + no) (ch, wy, sd0, 0)).2.2 = (sd, ns)
theorem mOK_le {nu am : Nat → Int32} {ni no mw v ns : Nat} {sd : Nat → Int64} (h1 : ni ≤ 2) (h2 : no ≤ 2) (h3 : mw ≤ 12) (h : mOK nu am ni no mw v ns sd) : ns ≤ 2380 := by
  obtain ⟨bd, ch, wy, sd0, e⟩ := h
  have e2 := congrArg Prod.snd e
  have hB := bnF_le (nu := nu) (am := am) (v := v) (bd := bd) h1 h2 h3
  obtain ⟨B, hBe⟩ : ∃ B, B = bnF nu am ni no mw v bd := ⟨_, rfl⟩
  rw [← hBe] at e2 hB
  have hW := bnW_le v (ni + no)
  have hq := chF_ns B.1 B.2 (bnW v (ni + no)) (ni + no) (bnW v (ni + no) - 1) 0 0 (ch, wy, sd0, 0)
  have hb := bnm_17 (bnW v (ni + no) - 1) (B.2 - 0) (by omega) (by omega)
  unfold asF at e2
  simp only at e2 hq
  omega
/-- what shares answers by a view of sides; nothing is known where no work is among them -/
def shQ (nu am : Nat → Int32) (ni no mw v w : Nat) (tp bl : Int64) (r : Int32) (ns' : Nat) (sd' : Nat → Int64) (tp' bl' : Int64) : Prop :=
  (anB am 0 mw false = false ∧ r = 0 ∧ tp' = tp ∧ bl' = bl) ∨ (anB am 0 mw false = true ∧ mOK nu am ni no mw v ns' sd' ∧ r = bI (shL sd' nu ni no w 0 ns' (0, 1)).1 ∧ tp' = (shL sd' nu ni no w 0 ns' (0, 1)).2.1 ∧ bl' = (shL sd' nu ni no w 0 ns' (0, 1)).2.2)
def shW (nu am : Nat → Int32) (ni no mw w : Nat) (tp bl wt wb : Int64) (r : Int32) (tp' bl' : Int64) : Prop :=
  (anB am 0 mw false = false ∧ r = 0 ∧ tp' = tp ∧ bl' = bl) ∨ (anB am 0 mw false = true ∧ r = bI (whF nu am ni no w 0 mw (false, tp, bl, wt, wb)).1 ∧ tp' = (whF nu am ni no w 0 mw (false, tp, bl, wt, wb)).2.1 ∧ bl' = (whF nu am ni no w 0 mw (false, tp, bl, wt, wb)).2.2.1)
def ptM (tp bl : Int64) (wh : Int32) : Int64 := if wh = 0 then tp / cmD tp bl else bl / cmD tp bl
def plN (x : MS) : Nat → Int32 := rtO (gLo x) (gHi x) (gMi x) (gMi x + gMo x) 0 (gMw x) (gNu x)
def plA (x : MS) : Nat → Int32 := pI (gAm x) 0 (gTr x) (gMw x)
def asC (x : MS) (v w : Int32) : Prop := isI v (nI 0) (nI 3) = true ∧ inR w (gMw x) = true ∧ ¬ gTr x (wN w) = 0 ∧ 0 < smN (plN x) (wN w * 4) (gMi x) ∧ 0 < smN (plN x) (wN w * 4 + gMi x) (gMo x)
def plF (x u : MS) : Prop := gNi u = gMi x ∧ gNo u = gMo x ∧ gNu u = plN x ∧ gAm u = plA x
def asP (x u : MS) (v w r : Int32) : Prop := (asC x v w ∧ r = nI 1 ∧ plF x u) ∨ (¬ asC x v w ∧ r = 0)
theorem asP_1 {x u : MS} {v w r : Int32} (h : asP x u v w r) (hr : ¬ r = 0) : asC x v w ∧ plF x u := by
  rcases h with ⟨h1, -, h2⟩ | ⟨-, h2⟩
  · exact ⟨h1, h2⟩
  · exact absurd h2 hr
theorem asP_0 {x u : MS} {v w r : Int32} (h : asP x u v w r) (hr : r = 0) : ¬ asC x v w := by
  rcases h with ⟨-, h1, -⟩ | ⟨h1, -⟩
  · rw [hr] at h1
    exact absurd h1 (by decide)
  · exact h1
def rdC (x : MS) (v : Int32) : Prop := isI v (nI 0) (nI 2) = true ∧ anB (gTr x) 0 (gMw x) false = true
def rdP (x u : MS) (v r : Int32) : Prop := (rdC x v ∧ r = nI 1 ∧ mOK (plN x) (plA x) (gMi x) (gMo x) (gMw x) (wN v) (gNs u) (gSd u)) ∨ (¬ rdC x v ∧ r = 0)
theorem cmW_nz : ∀ (n : Nat) (x y : Int64), y.toInt.natAbs ≤ n → (¬ x = 0 ∨ ¬ y = 0) → ¬ cmW x y = 0
  | 0, x, y, hn, h => by
    have hy : y = 0 := Int64.toInt_inj.mp (by rw [show (0 : Int64).toInt = 0 from rfl]; omega)
    rw [cmW, dif_pos hy]
    exact h.elim id (fun q => absurd hy q)
  | n + 1, x, y, hn, h => by
    rw [cmW]
    split
    · rename_i hy
      exact h.elim id (fun q => absurd hy q)
    · rename_i hy
      have := i64_abs_rem (x := x) hy
      exact cmW_nz n y _ (by omega) (Or.inl hy)
theorem cmD_nz {a b : Int64} (h : 0 < b) : ¬ cmD a b = 0 := by
  refine cmW_nz _ _ _ (Nat.le_refl _) (Or.inr ?_)
  rw [abM, if_pos h]
  intro q
  rw [q] at h
  exact absurd h (by decide)
theorem shL_pos (sd : Nat → Int64) (nu : Nat → Int32) (ni no w : Nat) : ∀ (n i : Nat) (q : Int64 × Int64), 0 < q.2 → 0 < (shL sd nu ni no w i n q).2.2
  | 0, _, _, h => h
  | n + 1, i, q, h => by
    rw [shL]
    split
    · exact h
    · refine shL_pos sd nu ni no w n (i + 1) _ ?_
      unfold shS
      split
      · rename_i h2; exact h2.1
      · exact h
theorem ofI_pos (nu : Nat → Int32) (j w : Nat) : ∀ (n k : Nat) (q : Int64 × Int64), 0 < q.2 → 0 < (ofI nu j w k n q).2.2
  | 0, _, _, h => h
  | n + 1, k, q, h => by
    rw [ofI]
    split
    · exact h
    · refine ofI_pos nu j w n (k + 1) _ ?_
      unfold ofS
      split
      · rename_i h2; exact h2.1
      · exact h
theorem ofI_self (nu : Nat → Int32) (w : Nat) : ∀ (n k : Nat) (q : Int64 × Int64), (ofI nu w w k n q).1 = true
  | 0, _, _ => rfl
  | n + 1, k, q => by
    rw [ofI, if_neg (fun h => by have h2 := h.2; rw [h.1] at h2; exact absurd h2 (by decide))]
    exact ofI_self nu w n (k + 1) _
theorem fitO_self (nu : Nat → Int32) (w : Nat) : ∀ (n k : Nat), fitO nu w w k n = true
  | 0, _ => rfl
  | n + 1, k => by rw [fitO, if_pos (by rw [i32_le]; exact Int.le_refl _)]; exact fitO_self nu w n (k + 1)
theorem oneF_pos {nu : Nat → Int32} {ni no j w : Nat} {q : Int64 × Int64} (h : (oneF nu ni no j w q).1 = true) : 0 < (oneF nu ni no j w q).2.2 := by
  unfold oneF at h ⊢
  by_cases hf : fitO nu j w ni no = true
  · rw [if_pos hf]
    exact ofI_pos nu j w ni 0 (0, 1) (by decide)
  · rw [if_neg hf] at h
    cases h
theorem whS_pos {nu am : Nat → Int32} {ni no w j : Nat} {q : WS} (h : q.1 = true → 0 < q.2.2.1) : (whS nu am ni no w j q).1 = true → 0 < (whS nu am ni no w j q).2.2.1 := by
  unfold whS
  split
  · exact h
  · unfold whE
    split
    · exact h
    · rename_i h2
      intro _
      exact oneF_pos (by cases hb : (oneF nu ni no j w q.2.2.2).1 with
        | true => rfl
        | false => exact absurd (Or.inl hb) h2)
theorem whF_pos (nu am : Nat → Int32) (ni no w : Nat) : ∀ (n j : Nat) (q : WS), (q.1 = true → 0 < q.2.2.1) → (whF nu am ni no w j n q).1 = true → 0 < (whF nu am ni no w j n q).2.2.1
  | 0, _, _, h => h
  | n + 1, j, q, h => whF_pos nu am ni no w n (j + 1) _ (whS_pos h)
theorem whS_keep {nu am : Nat → Int32} {ni no w j : Nat} {q : WS} (h : q.1 = true) : (whS nu am ni no w j q).1 = true := by
  unfold whS
  split
  · exact h
  · unfold whE
    split
    · exact h
    · rfl
theorem whF_keep (nu am : Nat → Int32) (ni no w : Nat) : ∀ (n j : Nat) (q : WS), q.1 = true → (whF nu am ni no w j n q).1 = true
  | 0, _, _, h => h
  | n + 1, j, q, h => whF_keep nu am ni no w n (j + 1) _ (whS_keep h)
theorem whS_self {nu am : Nat → Int32} {ni no w : Nat} {q : WS} (h : ¬ am w = 0) : (whS nu am ni no w w q).1 = true := by
  unfold whS
  rw [if_neg h]
  unfold whE
  split
  · rename_i h2
    rcases h2 with h2 | h2
    · unfold oneF at h2
      rw [if_pos (fitO_self nu w no ni), ofI_self] at h2
      cases h2
    · exact h2.1
  · rfl
theorem whF_self (nu am : Nat → Int32) (ni no w : Nat) (h : ¬ am w = 0) : ∀ (n j : Nat) (q : WS), j ≤ w → w < j + n → (whF nu am ni no w j n q).1 = true
  | 0, _, _, h1, h2 => absurd h2 (by omega)
  | n + 1, j, q, h1, h2 => by
    rw [whF]
    by_cases e : j = w
    · rw [e]
      exact whF_keep nu am ni no w n (w + 1) _ (whS_self h)
    · exact whF_self nu am ni no w h n (j + 1) _ (by omega) (by omega)
theorem iw_X4_oneFor_X4 : ∀ w ∈ wsX40, w ∈ wsX4_oneFor := fun w h => List.mem_cons_of_mem _ (List.mem_append_right _ h)
theorem fm_X4_oneFor_64 : Cond.fieldLink RX4 64 "EdgeBenchModel" "nIn" "I" ∈ wsX4_oneFor := List.mem_of_getElem? (i := 1) rfl
theorem fm_X4_oneFor_67 : Cond.fieldLink RX4 67 "EdgeBenchModel" "nOut" "I" ∈ wsX4_oneFor := List.mem_of_getElem? (i := 2) rfl
theorem fm_X4_oneFor_134 : Cond.fieldLink RX4 134 "EdgeBenchModel" "wholeTop" "J" ∈ wsX4_oneFor := List.mem_of_getElem? (i := 4) rfl
theorem fm_X4_oneFor_137 : Cond.fieldLink RX4 137 "EdgeBenchModel" "wholeBelow" "J" ∈ wsX4_oneFor := by decide +kernel
theorem fm_X4_oneFor_27 : Cond.fieldLink RX4 27 "EdgeBenchModel" "number" "[I" ∈ wsX4_oneFor := List.mem_of_getElem? (i := 3) rfl
set_option maxHeartbeats 20000000 in
set_option maxRecDepth 100000 in
theorem c_X4_oneFor (l : Launch) (g : Gt) (md : Nat → Nat) (xt : Int32) (mi : Nat) (mo : Nat) (mw : Nat) (ni : Nat) (no : Nat) (ns : Nat) (nb : Nat) (wd : Nat) (tp : Int64) (bl : Int64) (wt : Int64) (wb : Int64) (nu : Nat → Int32) (j : Nat) (w : Nat) (hj : j < 12) (hw : w < 12) (hni : ni ≤ 2) (hno : no ≤ 2) : CI l yX4_oneFor wsX4_oneFor { frames := 0, cells := 0, slots := 0, locals := 0 } g [.ref (md 0), .int (nI j), .int (nI w)] [(md 0, .inr (4, [.int (xt), .int (nI mi), .int (nI mo), .int (nI mw), .ref (md 1), .ref (md 2), .ref (md 3), .int (nI ni), .int (nI no), .ref (md 4), .ref (md 5), .ref (md 6), .int (nI ns), .ref (md 7), .ref (md 8), .int (nI nb), .int (nI wd), .ref (md 9), .long (tp), .long (bl), .long (wt), .long (wb)])), (md 4, aI g 48 nu)] (fun zr (zu : Unit) => zr = bI (oneF nu ni no j w (wt, wb)).1) (fun (zu : Unit) => [(md 0, .inr (4, [.int (xt), .int (nI mi), .int (nI mo), .int (nI mw), .ref (md 1), .ref (md 2), .ref (md 3), .int (nI ni), .int (nI no), .ref (md 4), .ref (md 5), .ref (md 6), .int (nI ns), .ref (md 7), .ref (md 8), .int (nI nb), .int (nI wd), .ref (md 9), .long (tp), .long (bl), .long ((oneF nu ni no j w (wt, wb)).2.1), .long ((oneF nu ni no j w (wt, wb)).2.2)])), (md 4, aI g 48 nu)]) 0 0 := by
  refine ent_z (cc := cX4_oneFor) (maxL := 8) (by decide) rfl (Nat.le_of_ble_eq_true rfl) ?_
  intro p e s m below meth c A args Q hE ret ls hl
  obtain ⟨hx, hb, hml, hown, hts, hnm, hA, hP, hD, hK, hN⟩ := hE
  have hS : va_S A s.heap s.heap [] := va_S.rf
  have hl : lv_has ls 8 [(0, .ref (md 0)), (1, .int (nI j)), (2, .int (nI w))] := hl
  have hP : va_P g.1 vwCl [(md 0, .inr (4, [.int (xt), .int (nI mi), .int (nI mo), .int (nI mw), .ref (md 1), .ref (md 2), .ref (md 3), .int (nI ni), .int (nI no), .ref (md 4), .ref (md 5), .ref (md 6), .int (nI ns), .ref (md 7), .ref (md 8), .int (nI nb), .int (nI wd), .ref (md 9), .long (tp), .long (bl), .long (wt), .long (wb)])), (md 4, aI g 48 nu)] s.heap := hP
  refine lv_aload_n hx hb dX4_oneFor_0 rfl (lv_at hl 0 rfl) ?_
  refine k_get hx hb hts hown hK hP iw_X4_oneFor_X4 rfl 0 7 fm_X4_oneFor_64 (by decide) rfl rfl dX4_oneFor_1 ?_
  refine lv_istore_n (lv' := [(3, .int (nI ni)), (0, .ref (md 0)), (1, .int (nI j)), (2, .int (nI w))]) hx hb dX4_oneFor_4 rfl hl (by decide) rfl (fun ls hl => ?_)
  have lp_5 : ∀ (n : Nat) (k : Nat), ni + no - k < n → k ≤ 4 → fitO nu j w ni no = fitO nu j w k (ni + no - k) → ∀ (H : Heap) (locs : List Loc), va_P g.1 vwCl [(md 0, .inr (4, [.int (xt), .int (nI mi), .int (nI mo), .int (nI mw), .ref (md 1), .ref (md 2), .ref (md 3), .int (nI ni), .int (nI no), .ref (md 4), .ref (md 5), .ref (md 6), .int (nI ns), .ref (md 7), .ref (md 8), .int (nI nb), .int (nI wd), .ref (md 9), .long (tp), .long (bl), .long (wt), .long (wb)])), (md 4, aI g 48 nu)] H → va_D A [(md 0, .inr (4, [.int (xt), .int (nI mi), .int (nI mo), .int (nI mw), .ref (md 1), .ref (md 2), .ref (md 3), .int (nI ni), .int (nI no), .ref (md 4), .ref (md 5), .ref (md 6), .int (nI ns), .ref (md 7), .ref (md 8), .int (nI nb), .int (nI wd), .ref (md 9), .long (tp), .long (bl), .long (wt), .long (wb)])), (md 4, aI g 48 nu)] → va_S A s.heap H locs → ∀ ls : Array Slot, lv_has ls 8 [(0, .ref (md 0)), (1, .int (nI j)), (2, .int (nI w)), (3, .int (nI k))] → W p l e { frames := 0, cells := 0, slots := 0, locals := 0 } s m args below meth c H locs 0 0 Q (F0 m 5 ls []) := by
    intro n
    induction n with
    | zero =>
      intro k hms
      omega
    | succ n ih_5 =>
      intro k hms_5 hk hv H locs hP hD hS ls hl
      refine lv_iload_n hx hb dX4_oneFor_5 rfl (lv_at hl 3 rfl) ?_
      refine lv_aload_n hx hb dX4_oneFor_6 rfl (lv_at hl 0 rfl) ?_
      refine k_get hx hb hts hown hK hP iw_X4_oneFor_X4 rfl 0 7 fm_X4_oneFor_64 (by decide) rfl rfl dX4_oneFor_7 ?_
      refine lv_aload_n hx hb dX4_oneFor_10 rfl (lv_at hl 0 rfl) ?_
      refine k_get hx hb hts hown hK hP iw_X4_oneFor_X4 rfl 0 8 fm_X4_oneFor_67 (by decide) rfl rfl dX4_oneFor_11 ?_
      refine lv_iadd hx hb dX4_oneFor_14 ?_
      refine k_ei (y := nI (ni + no)) (nI_add _ _) ?_
      refine lv_icmp_ge (tgt := 49) hx hb dX4_oneFor_15 (by decide) (fun c_1 => ?_) (fun c_1 => ?_)
      · skip
        have c_1 := (nI_leI (by omega) (by omega)).mp c_1
        have hfo : fitO nu j w ni no = true := by rw [hv, show ni + no - k = 0 by omega]; rfl
        refine lv_aload_n hx hb dX4_oneFor_49 rfl (lv_at hl 0 rfl) ?_
        refine lv_lconst (v := 0) hx hb dX4_oneFor_50 (by decide) ?_
        refine k_put hx hb hts hown hK hP hD hS iw_X4_oneFor_X4 rfl tyX4 tyX4_ok nmX4 0 20 fm_X4_oneFor_134 (by decide) rfl rfl rfl rfl rfl (Nat.le_of_ble_eq_true rfl) dX4_oneFor_51 (fun H locs hP hD hS => ?_)
        have hP : va_P g.1 vwCl [(md 0, .inr (4, [.int (xt), .int (nI mi), .int (nI mo), .int (nI mw), .ref (md 1), .ref (md 2), .ref (md 3), .int (nI ni), .int (nI no), .ref (md 4), .ref (md 5), .ref (md 6), .int (nI ns), .ref (md 7), .ref (md 8), .int (nI nb), .int (nI wd), .ref (md 9), .long (tp), .long (bl), .long (0), .long (wb)])), (md 4, aI g 48 nu)] H := hP
        have hD : va_D A [(md 0, .inr (4, [.int (xt), .int (nI mi), .int (nI mo), .int (nI mw), .ref (md 1), .ref (md 2), .ref (md 3), .int (nI ni), .int (nI no), .ref (md 4), .ref (md 5), .ref (md 6), .int (nI ns), .ref (md 7), .ref (md 8), .int (nI nb), .int (nI wd), .ref (md 9), .long (tp), .long (bl), .long (0), .long (wb)])), (md 4, aI g 48 nu)] := hD
        refine lv_aload_n hx hb dX4_oneFor_54 rfl (lv_at hl 0 rfl) ?_
        refine lv_lconst (v := 1) hx hb dX4_oneFor_55 (by decide) ?_
        refine k_put hx hb hts hown hK hP hD hS iw_X4_oneFor_X4 rfl tyX4 tyX4_ok nmX4 0 21 fm_X4_oneFor_137 (by decide) rfl rfl rfl rfl rfl (Nat.le_of_ble_eq_true rfl) dX4_oneFor_56 (fun H locs hP hD hS => ?_)
        have hP : va_P g.1 vwCl [(md 0, .inr (4, [.int (xt), .int (nI mi), .int (nI mo), .int (nI mw), .ref (md 1), .ref (md 2), .ref (md 3), .int (nI ni), .int (nI no), .ref (md 4), .ref (md 5), .ref (md 6), .int (nI ns), .ref (md 7), .ref (md 8), .int (nI nb), .int (nI wd), .ref (md 9), .long (tp), .long (bl), .long (0), .long (1)])), (md 4, aI g 48 nu)] H := hP
        have hD : va_D A [(md 0, .inr (4, [.int (xt), .int (nI mi), .int (nI mo), .int (nI mw), .ref (md 1), .ref (md 2), .ref (md 3), .int (nI ni), .int (nI no), .ref (md 4), .ref (md 5), .ref (md 6), .int (nI ns), .ref (md 7), .ref (md 8), .int (nI nb), .int (nI wd), .ref (md 9), .long (tp), .long (bl), .long (0), .long (1)])), (md 4, aI g 48 nu)] := hD
        refine lv_iconst (v := nI 0) hx hb dX4_oneFor_59 (by decide) ?_
        refine lv_istore_n (lv' := [(3, .int (nI 0)), (0, .ref (md 0)), (1, .int (nI j)), (2, .int (nI w))]) hx hb dX4_oneFor_60 rfl hl (by decide) rfl (fun ls hl => ?_)
        have lp_61 : ∀ (n : Nat) (k : Nat) (a : Int64) (b : Int64), ni - k < n → k ≤ ni → oneF nu ni no j w (wt, wb) = ofI nu j w k (ni - k) (a, b) → ∀ (H : Heap) (locs : List Loc), va_P g.1 vwCl [(md 0, .inr (4, [.int (xt), .int (nI mi), .int (nI mo), .int (nI mw), .ref (md 1), .ref (md 2), .ref (md 3), .int (nI ni), .int (nI no), .ref (md 4), .ref (md 5), .ref (md 6), .int (nI ns), .ref (md 7), .ref (md 8), .int (nI nb), .int (nI wd), .ref (md 9), .long (tp), .long (bl), .long (a), .long (b)])), (md 4, aI g 48 nu)] H → va_D A [(md 0, .inr (4, [.int (xt), .int (nI mi), .int (nI mo), .int (nI mw), .ref (md 1), .ref (md 2), .ref (md 3), .int (nI ni), .int (nI no), .ref (md 4), .ref (md 5), .ref (md 6), .int (nI ns), .ref (md 7), .ref (md 8), .int (nI nb), .int (nI wd), .ref (md 9), .long (tp), .long (bl), .long (a), .long (b)])), (md 4, aI g 48 nu)] → va_S A s.heap H locs → ∀ ls : Array Slot, lv_has ls 8 [(0, .ref (md 0)), (1, .int (nI j)), (2, .int (nI w)), (3, .int (nI k))] → W p l e { frames := 0, cells := 0, slots := 0, locals := 0 } s m args below meth c H locs 0 0 Q (F0 m 61 ls []) := by
          intro n
          induction n with
          | zero =>
            intro k a b hms
            omega
          | succ n ih_61 =>
            intro k a b hms_61 hk hv3 H locs hP hD hS ls hl
            refine lv_iload_n hx hb dX4_oneFor_61 rfl (lv_at hl 3 rfl) ?_
            refine lv_aload_n hx hb dX4_oneFor_62 rfl (lv_at hl 0 rfl) ?_
            refine k_get hx hb hts hown hK hP iw_X4_oneFor_X4 rfl 0 7 fm_X4_oneFor_64 (by decide) rfl rfl dX4_oneFor_63 ?_
            refine lv_icmp_ge (tgt := 154) hx hb dX4_oneFor_66 (by decide) (fun c_2 => ?_) (fun c_2 => ?_)
            · skip
              have c_2 := (nI_leI (by omega) (by omega)).mp c_2
              have hfin : oneF nu ni no j w (wt, wb) = (true, a, b) := by rw [hv3, show ni - k = 0 by omega]; rfl
              refine lv_iconst (v := nI 1) hx hb dX4_oneFor_154 (by decide) ?_
              have hP : va_P g.1 vwCl [(md 0, .inr (4, [.int (xt), .int (nI mi), .int (nI mo), .int (nI mw), .ref (md 1), .ref (md 2), .ref (md 3), .int (nI ni), .int (nI no), .ref (md 4), .ref (md 5), .ref (md 6), .int (nI ns), .ref (md 7), .ref (md 8), .int (nI nb), .int (nI wd), .ref (md 9), .long (tp), .long (bl), .long ((oneF nu ni no j w (wt, wb)).2.1), .long ((oneF nu ni no j w (wt, wb)).2.2)])), (md 4, aI g 48 nu)] H := by rw [hfin]; exact hP
              have hD : va_D A [(md 0, .inr (4, [.int (xt), .int (nI mi), .int (nI mo), .int (nI mw), .ref (md 1), .ref (md 2), .ref (md 3), .int (nI ni), .int (nI no), .ref (md 4), .ref (md 5), .ref (md 6), .int (nI ns), .ref (md 7), .ref (md 8), .int (nI nb), .int (nI wd), .ref (md 9), .long (tp), .long (bl), .long ((oneF nu ni no j w (wt, wb)).2.1), .long ((oneF nu ni no j w (wt, wb)).2.2)])), (md 4, aI g 48 nu)] := by rw [hfin]; exact hD
              exact ret dX4_oneFor_155 () (by rw [hfin]; rfl) (by decide) hP hD hS
            · skip
              have c_2 := mt (nI_leI (by omega) (by omega)).mpr c_2
              refine lv_aload_n hx hb dX4_oneFor_69 rfl (lv_at hl 0 rfl) ?_
              refine k_get hx hb hts hown hK hP iw_X4_oneFor_X4 rfl 0 9 fm_X4_oneFor_27 (by decide) rfl rfl dX4_oneFor_70 ?_
              refine lv_iconst (v := nI 4) hx hb dX4_oneFor_73 (by decide) ?_
              refine lv_iload_n hx hb dX4_oneFor_74 rfl (lv_at hl 1 rfl) ?_
              refine lv_imul hx hb dX4_oneFor_75 ?_
              refine k_ei (y := nI (j * 4)) ((pk_mul _ _).trans (congrArg nI (Nat.mul_comm _ _))) ?_
              refine lv_iload_n hx hb dX4_oneFor_76 rfl (lv_at hl 3 rfl) ?_
              refine lv_iadd hx hb dX4_oneFor_77 ?_
              refine k_ei (y := nI (j * 4 + k)) (nI_add _ _) ?_
              refine k_iald hx hb hK hP 1 rfl (by omega) (by omega) dX4_oneFor_78 ?_
              refine lv_i2l hx hb dX4_oneFor_79 rfl ?_
              refine lv_lstore (lv' := [(4, .long ((nu (j * 4 + k)).toInt64)), (0, .ref (md 0)), (1, .int (nI j)), (2, .int (nI w)), (3, .int (nI k))]) hx hb dX4_oneFor_80 hl (by decide) rfl (fun ls hl => ?_)
              refine lv_aload_n hx hb dX4_oneFor_82 rfl (lv_at hl 1 rfl) ?_
              refine k_get hx hb hts hown hK hP iw_X4_oneFor_X4 rfl 0 9 fm_X4_oneFor_27 (by decide) rfl rfl dX4_oneFor_83 ?_
              refine lv_iconst (v := nI 4) hx hb dX4_oneFor_86 (by decide) ?_
              refine lv_iload_n hx hb dX4_oneFor_87 rfl (lv_at hl 3 rfl) ?_
              refine lv_imul hx hb dX4_oneFor_88 ?_
              refine k_ei (y := nI (w * 4)) ((pk_mul _ _).trans (congrArg nI (Nat.mul_comm _ _))) ?_
              refine lv_iload_n hx hb dX4_oneFor_89 rfl (lv_at hl 4 rfl) ?_
              refine lv_iadd hx hb dX4_oneFor_90 ?_
              refine k_ei (y := nI (w * 4 + k)) (nI_add _ _) ?_
              refine k_iald hx hb hK hP 1 rfl (by omega) (by omega) dX4_oneFor_91 ?_
              refine lv_i2l hx hb dX4_oneFor_92 rfl ?_
              refine lv_lstore (lv' := [(6, .long ((nu (w * 4 + k)).toInt64)), (4, .long ((nu (j * 4 + k)).toInt64)), (0, .ref (md 0)), (1, .int (nI j)), (2, .int (nI w)), (3, .int (nI k))]) hx hb dX4_oneFor_93 hl (by decide) rfl (fun ls hl => ?_)
              have lp_111 : ¬ ((nu (w * 4 + k)).toInt64 = 0 ∧ 0 < (nu (j * 4 + k)).toInt64) → ∀ (H : Heap) (locs : List Loc), va_P g.1 vwCl [(md 0, .inr (4, [.int (xt), .int (nI mi), .int (nI mo), .int (nI mw), .ref (md 1), .ref (md 2), .ref (md 3), .int (nI ni), .int (nI no), .ref (md 4), .ref (md 5), .ref (md 6), .int (nI ns), .ref (md 7), .ref (md 8), .int (nI nb), .int (nI wd), .ref (md 9), .long (tp), .long (bl), .long (a), .long (b)])), (md 4, aI g 48 nu)] H → va_D A [(md 0, .inr (4, [.int (xt), .int (nI mi), .int (nI mo), .int (nI mw), .ref (md 1), .ref (md 2), .ref (md 3), .int (nI ni), .int (nI no), .ref (md 4), .ref (md 5), .ref (md 6), .int (nI ns), .ref (md 7), .ref (md 8), .int (nI nb), .int (nI wd), .ref (md 9), .long (tp), .long (bl), .long (a), .long (b)])), (md 4, aI g 48 nu)] → va_S A s.heap H locs → ∀ ls : Array Slot, lv_has ls 8 [(0, .ref (md 0)), (1, .int (nI j)), (2, .int (nI w)), (3, .int (nI k)), (4, .long ((nu (j * 4 + k)).toInt64)), (6, .long ((nu (w * 4 + k)).toInt64))] → W p l e { frames := 0, cells := 0, slots := 0, locals := 0 } s m args below meth c H locs 0 0 Q (F0 m 111 ls []) := by
                intro  hng H locs hP hD hS ls hl
                refine lv_lload hx hb dX4_oneFor_111 (lv_at hl 5 rfl) ?_
                refine lv_lconst (v := 0) hx hb dX4_oneFor_113 (by decide) ?_
                refine W.lcmp hx hb dX4_oneFor_114 ?_
                refine lv_if_le (tgt := 148) hx hb dX4_oneFor_115 (by decide) (fun c_3 => ?_) (fun c_3 => ?_)
                · skip
                  have c_3 := (lc_le _ _).mp c_3
                  have hv4 : oneF nu ni no j w (wt, wb) = ofI nu j w (k + 1) (ni - (k + 1)) (a, b) := by rw [hv3, show ni - k = (ni - (k + 1)) + 1 by omega, ofI, if_neg hng, ofS, if_neg (fun q => by have q := q.1; rw [i64_lt] at q; rw [i64_le] at c_3; omega)]
                  refine lv_iinc (v := nI (k + 1)) (lv' := [(3, .int (nI (k + 1))), (0, .ref (md 0)), (1, .int (nI j)), (2, .int (nI w)), (4, .long ((nu (j * 4 + k)).toInt64)), (6, .long ((nu (w * 4 + k)).toInt64))]) hx hb dX4_oneFor_148 hl (k := 3) rfl (nI_inc1 k) (by decide) rfl (fun ls hl => ?_)
                  refine lv_goto (tgt := 61) hx hb dX4_oneFor_151 (by decide) ?_
                  exact ih_61 (k + 1) a b (by omega) (by omega) hv4 _ _ hP hD hS ls (lv_sub hl [1, 2, 3, 0] rfl)
                · skip
                  have c_3 := mt (lc_le _ _).mpr c_3
                  have hbp : 0 < (nu (w * 4 + k)).toInt64 := by rw [i64_lt]; rw [i64_le] at c_3; omega
                  refine lv_lload hx hb dX4_oneFor_118 (lv_at hl 4 rfl) ?_
                  refine lv_aload_n hx hb dX4_oneFor_120 rfl (lv_at hl 0 rfl) ?_
                  refine k_get hx hb hts hown hK hP iw_X4_oneFor_X4 rfl 0 21 fm_X4_oneFor_137 (by decide) rfl rfl dX4_oneFor_121 ?_
                  refine lv_lmul hx hb dX4_oneFor_124 ?_
                  refine lv_aload_n hx hb dX4_oneFor_125 rfl (lv_at hl 0 rfl) ?_
                  refine k_get hx hb hts hown hK hP iw_X4_oneFor_X4 rfl 0 20 fm_X4_oneFor_134 (by decide) rfl rfl dX4_oneFor_126 ?_
                  refine lv_lload hx hb dX4_oneFor_129 (lv_at hl 5 rfl) ?_
                  refine lv_lmul hx hb dX4_oneFor_131 ?_
                  refine W.lcmp hx hb dX4_oneFor_132 ?_
                  refine lv_if_le (tgt := 148) hx hb dX4_oneFor_133 (by decide) (fun c_4 => ?_) (fun c_4 => ?_)
                  · skip
                    have c_4 := (lc_le _ _).mp c_4
                    have hv4 : oneF nu ni no j w (wt, wb) = ofI nu j w (k + 1) (ni - (k + 1)) (a, b) := by rw [hv3, show ni - k = (ni - (k + 1)) + 1 by omega, ofI, if_neg hng, ofS, if_neg (fun q => by have q : a * (nu (w * 4 + k)).toInt64 < (nu (j * 4 + k)).toInt64 * b := q.2; rw [i64_lt] at q; rw [i64_le] at c_4; omega)]
                    refine lv_iinc (v := nI (k + 1)) (lv' := [(3, .int (nI (k + 1))), (0, .ref (md 0)), (1, .int (nI j)), (2, .int (nI w)), (4, .long ((nu (j * 4 + k)).toInt64)), (6, .long ((nu (w * 4 + k)).toInt64))]) hx hb dX4_oneFor_148 hl (k := 3) rfl (nI_inc1 k) (by decide) rfl (fun ls hl => ?_)
                    refine lv_goto (tgt := 61) hx hb dX4_oneFor_151 (by decide) ?_
                    exact ih_61 (k + 1) a b (by omega) (by omega) hv4 _ _ hP hD hS ls (lv_sub hl [1, 2, 3, 0] rfl)
                  · skip
                    have c_4 := mt (lc_le _ _).mpr c_4
                    have hv4 : oneF nu ni no j w (wt, wb) = ofI nu j w (k + 1) (ni - (k + 1)) ((nu (j * 4 + k)).toInt64, (nu (w * 4 + k)).toInt64) := by rw [hv3, show ni - k = (ni - (k + 1)) + 1 by omega, ofI, if_neg hng, ofS, if_pos ⟨hbp, show a * (nu (w * 4 + k)).toInt64 < (nu (j * 4 + k)).toInt64 * b by rw [i64_lt]; rw [i64_le] at c_4; omega⟩]
                    refine lv_aload_n hx hb dX4_oneFor_136 rfl (lv_at hl 0 rfl) ?_
                    refine lv_lload hx hb dX4_oneFor_137 (lv_at hl 4 rfl) ?_
                    refine k_put hx hb hts hown hK hP hD hS iw_X4_oneFor_X4 rfl tyX4 tyX4_ok nmX4 0 20 fm_X4_oneFor_134 (by decide) rfl rfl rfl rfl rfl (Nat.le_of_ble_eq_true rfl) dX4_oneFor_139 (fun H locs hP hD hS => ?_)
                    have hP : va_P g.1 vwCl [(md 0, .inr (4, [.int (xt), .int (nI mi), .int (nI mo), .int (nI mw), .ref (md 1), .ref (md 2), .ref (md 3), .int (nI ni), .int (nI no), .ref (md 4), .ref (md 5), .ref (md 6), .int (nI ns), .ref (md 7), .ref (md 8), .int (nI nb), .int (nI wd), .ref (md 9), .long (tp), .long (bl), .long ((nu (j * 4 + k)).toInt64), .long (b)])), (md 4, aI g 48 nu)] H := hP
                    have hD : va_D A [(md 0, .inr (4, [.int (xt), .int (nI mi), .int (nI mo), .int (nI mw), .ref (md 1), .ref (md 2), .ref (md 3), .int (nI ni), .int (nI no), .ref (md 4), .ref (md 5), .ref (md 6), .int (nI ns), .ref (md 7), .ref (md 8), .int (nI nb), .int (nI wd), .ref (md 9), .long (tp), .long (bl), .long ((nu (j * 4 + k)).toInt64), .long (b)])), (md 4, aI g 48 nu)] := hD
                    refine lv_aload_n hx hb dX4_oneFor_142 rfl (lv_at hl 0 rfl) ?_
                    refine lv_lload hx hb dX4_oneFor_143 (lv_at hl 5 rfl) ?_
                    refine k_put hx hb hts hown hK hP hD hS iw_X4_oneFor_X4 rfl tyX4 tyX4_ok nmX4 0 21 fm_X4_oneFor_137 (by decide) rfl rfl rfl rfl rfl (Nat.le_of_ble_eq_true rfl) dX4_oneFor_145 (fun H locs hP hD hS => ?_)
                    have hP : va_P g.1 vwCl [(md 0, .inr (4, [.int (xt), .int (nI mi), .int (nI mo), .int (nI mw), .ref (md 1), .ref (md 2), .ref (md 3), .int (nI ni), .int (nI no), .ref (md 4), .ref (md 5), .ref (md 6), .int (nI ns), .ref (md 7), .ref (md 8), .int (nI nb), .int (nI wd), .ref (md 9), .long (tp), .long (bl), .long ((nu (j * 4 + k)).toInt64), .long ((nu (w * 4 + k)).toInt64)])), (md 4, aI g 48 nu)] H := hP
                    have hD : va_D A [(md 0, .inr (4, [.int (xt), .int (nI mi), .int (nI mo), .int (nI mw), .ref (md 1), .ref (md 2), .ref (md 3), .int (nI ni), .int (nI no), .ref (md 4), .ref (md 5), .ref (md 6), .int (nI ns), .ref (md 7), .ref (md 8), .int (nI nb), .int (nI wd), .ref (md 9), .long (tp), .long (bl), .long ((nu (j * 4 + k)).toInt64), .long ((nu (w * 4 + k)).toInt64)])), (md 4, aI g 48 nu)] := hD
                    refine lv_iinc (v := nI (k + 1)) (lv' := [(3, .int (nI (k + 1))), (0, .ref (md 0)), (1, .int (nI j)), (2, .int (nI w)), (4, .long ((nu (j * 4 + k)).toInt64)), (6, .long ((nu (w * 4 + k)).toInt64))]) hx hb dX4_oneFor_148 hl (k := 3) rfl (nI_inc1 k) (by decide) rfl (fun ls hl => ?_)
                    refine lv_goto (tgt := 61) hx hb dX4_oneFor_151 (by decide) ?_
                    exact ih_61 (k + 1) ((nu (j * 4 + k)).toInt64) ((nu (w * 4 + k)).toInt64) (by omega) (by omega) hv4 _ _ hP hD hS ls (lv_sub hl [1, 2, 3, 0] rfl)
              refine lv_lload hx hb dX4_oneFor_95 (lv_at hl 0 rfl) ?_
              refine lv_lconst (v := 0) hx hb dX4_oneFor_97 (by decide) ?_
              refine W.lcmp hx hb dX4_oneFor_98 ?_
              refine lv_if_ne (tgt := 111) hx hb dX4_oneFor_99 (by decide) (fun c_5 => ?_) (fun c_5 => ?_)
              · skip
                have c_5 := mt (lc_eq _ _).mpr c_5
                have hng : ¬ ((nu (w * 4 + k)).toInt64 = 0 ∧ 0 < (nu (j * 4 + k)).toInt64) := fun q => c_5 q.1
                exact lp_111  hng _ _ hP hD hS ls (lv_sub hl [2, 3, 4, 5, 1, 0] rfl)
              · skip
                have c_5 := (lc_eq _ _).mp c_5
                have hb0 := c_5
                refine lv_lload hx hb dX4_oneFor_102 (lv_at hl 1 rfl) ?_
                refine lv_lconst (v := 0) hx hb dX4_oneFor_104 (by decide) ?_
                refine W.lcmp hx hb dX4_oneFor_105 ?_
                refine lv_if_le (tgt := 111) hx hb dX4_oneFor_106 (by decide) (fun c_6 => ?_) (fun c_6 => ?_)
                · skip
                  have c_6 := (lc_le _ _).mp c_6
                  have hng : ¬ ((nu (w * 4 + k)).toInt64 = 0 ∧ 0 < (nu (j * 4 + k)).toInt64) := fun q => by have q := q.2; rw [i64_lt] at q; rw [i64_le] at c_6; omega
                  exact lp_111  hng _ _ hP hD hS ls (lv_sub hl [2, 3, 4, 5, 1, 0] rfl)
                · skip
                  have c_6 := mt (lc_le _ _).mpr c_6
                  have hfin : oneF nu ni no j w (wt, wb) = (false, a, b) := by rw [hv3, show ni - k = (ni - (k + 1)) + 1 by omega, ofI, if_pos ⟨hb0, by rw [i64_lt]; rw [i64_le] at c_6; omega⟩]
                  refine lv_iconst (v := nI 0) hx hb dX4_oneFor_109 (by decide) ?_
                  have hP : va_P g.1 vwCl [(md 0, .inr (4, [.int (xt), .int (nI mi), .int (nI mo), .int (nI mw), .ref (md 1), .ref (md 2), .ref (md 3), .int (nI ni), .int (nI no), .ref (md 4), .ref (md 5), .ref (md 6), .int (nI ns), .ref (md 7), .ref (md 8), .int (nI nb), .int (nI wd), .ref (md 9), .long (tp), .long (bl), .long ((oneF nu ni no j w (wt, wb)).2.1), .long ((oneF nu ni no j w (wt, wb)).2.2)])), (md 4, aI g 48 nu)] H := by rw [hfin]; exact hP
                  have hD : va_D A [(md 0, .inr (4, [.int (xt), .int (nI mi), .int (nI mo), .int (nI mw), .ref (md 1), .ref (md 2), .ref (md 3), .int (nI ni), .int (nI no), .ref (md 4), .ref (md 5), .ref (md 6), .int (nI ns), .ref (md 7), .ref (md 8), .int (nI nb), .int (nI wd), .ref (md 9), .long (tp), .long (bl), .long ((oneF nu ni no j w (wt, wb)).2.1), .long ((oneF nu ni no j w (wt, wb)).2.2)])), (md 4, aI g 48 nu)] := by rw [hfin]; exact hD
                  exact ret dX4_oneFor_110 () (by rw [hfin]; rfl) (by decide) hP hD hS
        exact lp_61 (ni - 0 + 1) 0 0 1 (by omega) (by omega) (by rw [oneF, if_pos hfo]; rfl) _ _ hP hD hS ls (lv_sub hl [1, 2, 3, 0] rfl)
      · skip
        have c_1 := mt (nI_leI (by omega) (by omega)).mpr c_1
        refine lv_aload_n hx hb dX4_oneFor_18 rfl (lv_at hl 0 rfl) ?_
        refine k_get hx hb hts hown hK hP iw_X4_oneFor_X4 rfl 0 9 fm_X4_oneFor_27 (by decide) rfl rfl dX4_oneFor_19 ?_
        refine lv_iconst (v := nI 4) hx hb dX4_oneFor_22 (by decide) ?_
        refine lv_iload_n hx hb dX4_oneFor_23 rfl (lv_at hl 1 rfl) ?_
        refine lv_imul hx hb dX4_oneFor_24 ?_
        refine k_ei (y := nI (j * 4)) ((pk_mul _ _).trans (congrArg nI (Nat.mul_comm _ _))) ?_
        refine lv_iload_n hx hb dX4_oneFor_25 rfl (lv_at hl 3 rfl) ?_
        refine lv_iadd hx hb dX4_oneFor_26 ?_
        refine k_ei (y := nI (j * 4 + k)) (nI_add _ _) ?_
        refine k_iald hx hb hK hP 1 rfl (by omega) (by omega) dX4_oneFor_27 ?_
        refine lv_aload_n hx hb dX4_oneFor_28 rfl (lv_at hl 0 rfl) ?_
        refine k_get hx hb hts hown hK hP iw_X4_oneFor_X4 rfl 0 9 fm_X4_oneFor_27 (by decide) rfl rfl dX4_oneFor_29 ?_
        refine lv_iconst (v := nI 4) hx hb dX4_oneFor_32 (by decide) ?_
        refine lv_iload_n hx hb dX4_oneFor_33 rfl (lv_at hl 2 rfl) ?_
        refine lv_imul hx hb dX4_oneFor_34 ?_
        refine k_ei (y := nI (w * 4)) ((pk_mul _ _).trans (congrArg nI (Nat.mul_comm _ _))) ?_
        refine lv_iload_n hx hb dX4_oneFor_35 rfl (lv_at hl 3 rfl) ?_
        refine lv_iadd hx hb dX4_oneFor_36 ?_
        refine k_ei (y := nI (w * 4 + k)) (nI_add _ _) ?_
        refine k_iald hx hb hK hP 1 rfl (by omega) (by omega) dX4_oneFor_37 ?_
        refine lv_icmp_ge (tgt := 43) hx hb dX4_oneFor_38 (by decide) (fun c_7 => ?_) (fun c_7 => ?_)
        · skip
          have hv2 : fitO nu j w ni no = fitO nu j w (k + 1) (ni + no - (k + 1)) := by rw [hv, show ni + no - k = (ni + no - (k + 1)) + 1 by omega, fitO, if_pos c_7]
          refine lv_iinc (v := nI (k + 1)) (lv' := [(3, .int (nI (k + 1))), (0, .ref (md 0)), (1, .int (nI j)), (2, .int (nI w))]) hx hb dX4_oneFor_43 hl (k := 3) rfl (nI_inc1 k) (by decide) rfl (fun ls hl => ?_)
          refine lv_goto (tgt := 5) hx hb dX4_oneFor_46 (by decide) ?_
          exact ih_5 (k + 1) (by omega) (by omega) hv2 _ _ hP hD hS ls (lv_sub hl [1, 2, 3, 0] rfl)
        · skip
          have hfin : oneF nu ni no j w (wt, wb) = (false, wt, wb) := by rw [oneF, if_neg]; rw [hv, show ni + no - k = (ni + no - (k + 1)) + 1 by omega, fitO, if_neg c_7]; decide
          refine lv_iconst (v := nI 0) hx hb dX4_oneFor_41 (by decide) ?_
          have hP : va_P g.1 vwCl [(md 0, .inr (4, [.int (xt), .int (nI mi), .int (nI mo), .int (nI mw), .ref (md 1), .ref (md 2), .ref (md 3), .int (nI ni), .int (nI no), .ref (md 4), .ref (md 5), .ref (md 6), .int (nI ns), .ref (md 7), .ref (md 8), .int (nI nb), .int (nI wd), .ref (md 9), .long (tp), .long (bl), .long ((oneF nu ni no j w (wt, wb)).2.1), .long ((oneF nu ni no j w (wt, wb)).2.2)])), (md 4, aI g 48 nu)] H := by rw [hfin]; exact hP
          have hD : va_D A [(md 0, .inr (4, [.int (xt), .int (nI mi), .int (nI mo), .int (nI mw), .ref (md 1), .ref (md 2), .ref (md 3), .int (nI ni), .int (nI no), .ref (md 4), .ref (md 5), .ref (md 6), .int (nI ns), .ref (md 7), .ref (md 8), .int (nI nb), .int (nI wd), .ref (md 9), .long (tp), .long (bl), .long ((oneF nu ni no j w (wt, wb)).2.1), .long ((oneF nu ni no j w (wt, wb)).2.2)])), (md 4, aI g 48 nu)] := by rw [hfin]; exact hD
          exact ret dX4_oneFor_42 () (by rw [hfin]; rfl) (by decide) hP hD hS
  exact lp_5 (ni + no - ni + 1) ni (by omega) (by omega) (by rw [show ni + no - ni = no by omega]) _ _ hP hD hS ls (lv_sub hl [1, 2, 3, 0] rfl)
theorem iw_X4_wholes_X4 : ∀ w ∈ wsX40, w ∈ wsX4_wholes := fun w h => List.mem_cons_of_mem _ (List.mem_append_right _ h)
theorem fm_X4_wholes_49 : Cond.fieldLink RX4 49 "EdgeBenchModel" "works" "I" ∈ wsX4_wholes := List.mem_of_getElem? (i := 1) rfl
theorem fm_X4_wholes_30 : Cond.fieldLink RX4 30 "EdgeBenchModel" "among" "[Z" ∈ wsX4_wholes := List.mem_of_getElem? (i := 2) rfl
theorem hdn_X4_oneFor : yX4_oneFor.cls ≠ "java/lang/invoke/MethodHandle" ∧ yX4_oneFor.cls ≠ "java/lang/invoke/VarHandle" ∧ (parseMethodDescriptor yX4_oneFor.desc).map (fun d => d.parameters.length) = some 2 := by decide +kernel
theorem cw_X4_wholes_140_0_0 {R : Room} {s : State} {args : Array Value} (hts : ∀ w ∈ wsX4_wholes, w.before args s = true) (hN : nsW s) (hR : 0 + 1 ≤ R.frames ∧ 8 + (8 + 11) + 0 ≤ R.locals) : CallW R s args RX4 RX4 140 yX4_oneFor cX4_oneFor 8 (some .boolean) wsX4_oneFor { frames := 0, cells := 0, slots := 0, locals := 0 } 0 0 2 := cwV 2 hts gX4_wholes_X4_oneFor rfl rfl rfl ⟨rfl, hdn_X4_oneFor⟩ hR
theorem fm_X4_wholes_134 : Cond.fieldLink RX4 134 "EdgeBenchModel" "wholeTop" "J" ∈ wsX4_wholes := List.mem_of_getElem? (i := 3) rfl
theorem fm_X4_wholes_121 : Cond.fieldLink RX4 121 "EdgeBenchModel" "top" "J" ∈ wsX4_wholes := List.mem_of_getElem? (i := 5) rfl
theorem fm_X4_wholes_137 : Cond.fieldLink RX4 137 "EdgeBenchModel" "wholeBelow" "J" ∈ wsX4_wholes := List.mem_of_getElem? (i := 6) rfl
theorem fm_X4_wholes_125 : Cond.fieldLink RX4 125 "EdgeBenchModel" "below" "J" ∈ wsX4_wholes := List.mem_of_getElem? (i := 4) rfl
set_option maxHeartbeats 20000000 in
set_option maxRecDepth 100000 in
theorem c_X4_wholes (l : Launch) (g : Gt) (md : Nat → Nat) (xt : Int32) (mi : Nat) (mo : Nat) (mw : Nat) (ni : Nat) (no : Nat) (ns : Nat) (nb : Nat) (wd : Nat) (tp : Int64) (bl : Int64) (wt : Int64) (wb : Int64) (nu : Nat → Int32) (am : Nat → Int32) (w : Nat) (hw : w < 12) (hmw : mw ≤ 12) (hni : ni ≤ 2) (hno : no ≤ 2) : CI l yX4_wholes wsX4_wholes { frames := 1, cells := 0, slots := 0, locals := 27 } g [.ref (md 0), .int (nI w)] [(md 0, .inr (4, [.int (xt), .int (nI mi), .int (nI mo), .int (nI mw), .ref (md 1), .ref (md 2), .ref (md 3), .int (nI ni), .int (nI no), .ref (md 4), .ref (md 5), .ref (md 6), .int (nI ns), .ref (md 7), .ref (md 8), .int (nI nb), .int (nI wd), .ref (md 9), .long (tp), .long (bl), .long (wt), .long (wb)])), (md 4, aI g 48 nu), (md 5, aZ g 12 am)] (fun zr (zu : Unit) => zr = bI (whF nu am ni no w 0 mw (false, tp, bl, wt, wb)).1) (fun (zu : Unit) => [(md 0, .inr (4, [.int (xt), .int (nI mi), .int (nI mo), .int (nI mw), .ref (md 1), .ref (md 2), .ref (md 3), .int (nI ni), .int (nI no), .ref (md 4), .ref (md 5), .ref (md 6), .int (nI ns), .ref (md 7), .ref (md 8), .int (nI nb), .int (nI wd), .ref (md 9), .long ((whF nu am ni no w 0 mw (false, tp, bl, wt, wb)).2.1), .long ((whF nu am ni no w 0 mw (false, tp, bl, wt, wb)).2.2.1), .long ((whF nu am ni no w 0 mw (false, tp, bl, wt, wb)).2.2.2.1), .long ((whF nu am ni no w 0 mw (false, tp, bl, wt, wb)).2.2.2.2)])), (md 4, aI g 48 nu), (md 5, aZ g 12 am)]) 0 0 := by
  refine ent_z (cc := cX4_wholes) (maxL := 4) (by decide) rfl (Nat.le_of_ble_eq_true rfl) ?_
  intro p e s m below meth c A args Q hE ret ls hl
  obtain ⟨hx, hb, hml, hown, hts, hnm, hA, hP, hD, hK, hN⟩ := hE
  have hS : va_S A s.heap s.heap [] := va_S.rf
  have hl : lv_has ls 4 [(0, .ref (md 0)), (1, .int (nI w))] := hl
  have hP : va_P g.1 vwCl [(md 0, .inr (4, [.int (xt), .int (nI mi), .int (nI mo), .int (nI mw), .ref (md 1), .ref (md 2), .ref (md 3), .int (nI ni), .int (nI no), .ref (md 4), .ref (md 5), .ref (md 6), .int (nI ns), .ref (md 7), .ref (md 8), .int (nI nb), .int (nI wd), .ref (md 9), .long (tp), .long (bl), .long (wt), .long (wb)])), (md 4, aI g 48 nu), (md 5, aZ g 12 am)] s.heap := hP
  refine lv_iconst (v := nI 0) hx hb dX4_wholes_0 (by decide) ?_
  refine lv_istore_n (lv' := [(2, .int (bI false)), (0, .ref (md 0)), (1, .int (nI w))]) hx hb dX4_wholes_1 rfl hl (by decide) rfl (fun ls hl => ?_)
  refine lv_iconst (v := nI 0) hx hb dX4_wholes_2 (by decide) ?_
  refine lv_istore_n (lv' := [(3, .int (nI 0)), (2, .int (bI false)), (0, .ref (md 0)), (1, .int (nI w))]) hx hb dX4_wholes_3 rfl hl (by decide) rfl (fun ls hl => ?_)
  have lp_4 : ∀ (n : Nat) (j : Nat) (q : Bool) (a : Int64) (b : Int64) (c9 : Int64) (d9 : Int64), mw - j < n → j ≤ mw → whF nu am ni no w 0 mw (false, tp, bl, wt, wb) = whF nu am ni no w j (mw - j) (q, a, b, c9, d9) → ∀ (H : Heap) (locs : List Loc), va_P g.1 vwCl [(md 0, .inr (4, [.int (xt), .int (nI mi), .int (nI mo), .int (nI mw), .ref (md 1), .ref (md 2), .ref (md 3), .int (nI ni), .int (nI no), .ref (md 4), .ref (md 5), .ref (md 6), .int (nI ns), .ref (md 7), .ref (md 8), .int (nI nb), .int (nI wd), .ref (md 9), .long (a), .long (b), .long (c9), .long (d9)])), (md 4, aI g 48 nu), (md 5, aZ g 12 am)] H → va_D A [(md 0, .inr (4, [.int (xt), .int (nI mi), .int (nI mo), .int (nI mw), .ref (md 1), .ref (md 2), .ref (md 3), .int (nI ni), .int (nI no), .ref (md 4), .ref (md 5), .ref (md 6), .int (nI ns), .ref (md 7), .ref (md 8), .int (nI nb), .int (nI wd), .ref (md 9), .long (a), .long (b), .long (c9), .long (d9)])), (md 4, aI g 48 nu), (md 5, aZ g 12 am)] → va_S A s.heap H locs → ∀ ls : Array Slot, lv_has ls 4 [(0, .ref (md 0)), (1, .int (nI w)), (2, .int (bI q)), (3, .int (nI j))] → W p l e { frames := 1, cells := 0, slots := 0, locals := 27 } s m args below meth c H locs 0 0 Q (F0 m 4 ls []) := by
    intro n
    induction n with
    | zero =>
      intro j q a b c9 d9 hms
      omega
    | succ n ih_4 =>
      intro j q a b c9 d9 hms_4 hj hv H locs hP hD hS ls hl
      refine lv_iload_n hx hb dX4_wholes_4 rfl (lv_at hl 3 rfl) ?_
      refine lv_aload_n hx hb dX4_wholes_5 rfl (lv_at hl 0 rfl) ?_
      refine k_get hx hb hts hown hK hP iw_X4_wholes_X4 rfl 0 3 fm_X4_wholes_49 (by decide) rfl rfl dX4_wholes_6 ?_
      refine lv_icmp_ge (tgt := 86) hx hb dX4_wholes_9 (by decide) (fun c_1 => ?_) (fun c_1 => ?_)
      · skip
        have c_1 := (nI_leI (by omega) (by omega)).mp c_1
        have hfin : whF nu am ni no w 0 mw (false, tp, bl, wt, wb) = (q, a, b, c9, d9) := by rw [hv, show mw - j = 0 by omega]; rfl
        refine lv_iload_n hx hb dX4_wholes_86 rfl (lv_at hl 2 rfl) ?_
        have hP : va_P g.1 vwCl [(md 0, .inr (4, [.int (xt), .int (nI mi), .int (nI mo), .int (nI mw), .ref (md 1), .ref (md 2), .ref (md 3), .int (nI ni), .int (nI no), .ref (md 4), .ref (md 5), .ref (md 6), .int (nI ns), .ref (md 7), .ref (md 8), .int (nI nb), .int (nI wd), .ref (md 9), .long ((whF nu am ni no w 0 mw (false, tp, bl, wt, wb)).2.1), .long ((whF nu am ni no w 0 mw (false, tp, bl, wt, wb)).2.2.1), .long ((whF nu am ni no w 0 mw (false, tp, bl, wt, wb)).2.2.2.1), .long ((whF nu am ni no w 0 mw (false, tp, bl, wt, wb)).2.2.2.2)])), (md 4, aI g 48 nu), (md 5, aZ g 12 am)] H := by rw [hfin]; exact hP
        have hD : va_D A [(md 0, .inr (4, [.int (xt), .int (nI mi), .int (nI mo), .int (nI mw), .ref (md 1), .ref (md 2), .ref (md 3), .int (nI ni), .int (nI no), .ref (md 4), .ref (md 5), .ref (md 6), .int (nI ns), .ref (md 7), .ref (md 8), .int (nI nb), .int (nI wd), .ref (md 9), .long ((whF nu am ni no w 0 mw (false, tp, bl, wt, wb)).2.1), .long ((whF nu am ni no w 0 mw (false, tp, bl, wt, wb)).2.2.1), .long ((whF nu am ni no w 0 mw (false, tp, bl, wt, wb)).2.2.2.1), .long ((whF nu am ni no w 0 mw (false, tp, bl, wt, wb)).2.2.2.2)])), (md 4, aI g 48 nu), (md 5, aZ g 12 am)] := by rw [hfin]; exact hD
        exact ret dX4_wholes_87 () (by rw [hfin]) (bI01 _) hP hD hS
      · skip
        have c_1 := mt (nI_leI (by omega) (by omega)).mpr c_1
        refine lv_aload_n hx hb dX4_wholes_12 rfl (lv_at hl 0 rfl) ?_
        refine k_get hx hb hts hown hK hP iw_X4_wholes_X4 rfl 0 10 fm_X4_wholes_30 (by decide) rfl rfl dX4_wholes_13 ?_
        refine lv_iload_n hx hb dX4_wholes_16 rfl (lv_at hl 3 rfl) ?_
        refine k_zald hx hb hK hP 2 rfl (by omega) (by omega) dX4_wholes_17 ?_
        refine lv_if_eq (tgt := 80) hx hb dX4_wholes_18 (by decide) (fun c_2 => ?_) (fun c_2 => ?_)
        · skip
          have hv2 : whF nu am ni no w 0 mw (false, tp, bl, wt, wb) = whF nu am ni no w (j + 1) (mw - (j + 1)) (q, a, b, c9, d9) := by rw [hv, show mw - j = (mw - (j + 1)) + 1 by omega, whF, whS, if_pos c_2]
          refine lv_iinc (v := nI (j + 1)) (lv' := [(3, .int (nI (j + 1))), (0, .ref (md 0)), (1, .int (nI w)), (2, .int (bI q))]) hx hb dX4_wholes_80 hl (k := 3) rfl (nI_inc1 j) (by decide) rfl (fun ls hl => ?_)
          refine lv_goto (tgt := 4) hx hb dX4_wholes_83 (by decide) ?_
          exact ih_4 (j + 1) q a b c9 d9 (by omega) (by omega) hv2 _ _ hP hD hS ls (lv_sub hl [1, 2, 3, 0] rfl)
        · skip
          have ham := c_2
          refine lv_aload_n hx hb dX4_wholes_21 rfl (lv_at hl 0 rfl) ?_
          refine lv_iload_n hx hb dX4_wholes_22 rfl (lv_at hl 3 rfl) ?_
          refine lv_iload_n hx hb dX4_wholes_23 rfl (lv_at hl 1 rfl) ?_
          refine go_i (wc := [(md 0, .inr (4, [.int (xt), .int (nI mi), .int (nI mo), .int (nI mw), .ref (md 1), .ref (md 2), .ref (md 3), .int (nI ni), .int (nI no), .ref (md 4), .ref (md 5), .ref (md 6), .int (nI ns), .ref (md 7), .ref (md 8), .int (nI nb), .int (nI wd), .ref (md 9), .long (a), .long (b), .long (c9), .long (d9)])), (md 4, aI g 48 nu)]) (wr := [(md 5, aZ g 12 am)]) hP hD hS hA [0, 1] [2] rfl rfl rfl rfl (by decide) (fun hPc hDc => rn_V (As := [.int (nI j), .int (nI w)]) (rest := []) ⟨hx, hb, hml, hown, hts⟩ ((c_X4_oneFor l g md xt mi mo mw ni no ns nb wd a b c9 d9 nu j w (by omega) (by omega) (by omega) (by omega)) _) (cw_X4_wholes_140_0_0 hts hN ⟨Nat.le_of_ble_eq_true rfl, Nat.le_of_ble_eq_true rfl⟩) hK hN hPc hDc 0 rfl rfl rfl rfl hl.1 (Nat.le_of_ble_eq_true rfl) dX4_wholes_24 ⟨Nat.le_of_ble_eq_true rfl, Nat.le_of_ble_eq_true rfl⟩) ?_
          intro r_3 u_4 H locs h_5 hP hD hS
          have hP : va_P g.1 vwCl [(md 0, .inr (4, [.int (xt), .int (nI mi), .int (nI mo), .int (nI mw), .ref (md 1), .ref (md 2), .ref (md 3), .int (nI ni), .int (nI no), .ref (md 4), .ref (md 5), .ref (md 6), .int (nI ns), .ref (md 7), .ref (md 8), .int (nI nb), .int (nI wd), .ref (md 9), .long (a), .long (b), .long ((oneF nu ni no j w (c9, d9)).2.1), .long ((oneF nu ni no j w (c9, d9)).2.2)])), (md 4, aI g 48 nu), (md 5, aZ g 12 am)] H := hP.sub [1, 2, 0] rfl
          have hD : va_D A [(md 0, .inr (4, [.int (xt), .int (nI mi), .int (nI mo), .int (nI mw), .ref (md 1), .ref (md 2), .ref (md 3), .int (nI ni), .int (nI no), .ref (md 4), .ref (md 5), .ref (md 6), .int (nI ns), .ref (md 7), .ref (md 8), .int (nI nb), .int (nI wd), .ref (md 9), .long (a), .long (b), .long ((oneF nu ni no j w (c9, d9)).2.1), .long ((oneF nu ni no j w (c9, d9)).2.2)])), (md 4, aI g 48 nu), (md 5, aZ g 12 am)] := hD.sub [1, 2, 0] rfl rfl
          have h_5 : r_3 = bI (oneF nu ni no j w (c9, d9)).1 := h_5
          subst h_5
          refine lv_if_ne (tgt := 33) hx hb dX4_wholes_27 (by decide) (fun c_6 => ?_) (fun c_6 => ?_)
          · skip
            have hon := bI_ne0.mp c_6
            refine lv_iload_n hx hb dX4_wholes_33 rfl (lv_at hl 2 rfl) ?_
            refine lv_if_eq (tgt := 62) hx hb dX4_wholes_34 (by decide) (fun c_7 => ?_) (fun c_7 => ?_)
            · skip
              have hv2 : whF nu am ni no w 0 mw (false, tp, bl, wt, wb) = whF nu am ni no w (j + 1) (mw - (j + 1)) (true, (oneF nu ni no j w (c9, d9)).2.1, (oneF nu ni no j w (c9, d9)).2.2, (oneF nu ni no j w (c9, d9)).2.1, (oneF nu ni no j w (c9, d9)).2.2) := by rw [hv, show mw - j = (mw - (j + 1)) + 1 by omega, whF, whS, if_neg ham, whE, if_neg (fun z => z.elim (fun z => by rw [hon] at z; cases z) (fun z => by have h0 := bI_eq0.mp c_7; rw [h0] at z; have z1 : false = true := z.1; cases z1))]
              refine lv_iconst (v := nI 1) hx hb dX4_wholes_62 (by decide) ?_
              refine lv_istore_n (lv' := [(2, .int (bI true)), (0, .ref (md 0)), (1, .int (nI w)), (3, .int (nI j))]) hx hb dX4_wholes_63 rfl hl (by decide) rfl (fun ls hl => ?_)
              refine lv_aload_n hx hb dX4_wholes_64 rfl (lv_at hl 1 rfl) ?_
              refine lv_aload_n hx hb dX4_wholes_65 rfl (lv_at hl 1 rfl) ?_
              refine k_get hx hb hts hown hK hP iw_X4_wholes_X4 rfl 0 20 fm_X4_wholes_134 (by decide) rfl rfl dX4_wholes_66 ?_
              refine k_put hx hb hts hown hK hP hD hS iw_X4_wholes_X4 rfl tyX4 tyX4_ok nmX4 0 18 fm_X4_wholes_121 (by decide) rfl rfl rfl rfl rfl (Nat.le_of_ble_eq_true rfl) dX4_wholes_69 (fun H locs hP hD hS => ?_)
              have hP : va_P g.1 vwCl [(md 0, .inr (4, [.int (xt), .int (nI mi), .int (nI mo), .int (nI mw), .ref (md 1), .ref (md 2), .ref (md 3), .int (nI ni), .int (nI no), .ref (md 4), .ref (md 5), .ref (md 6), .int (nI ns), .ref (md 7), .ref (md 8), .int (nI nb), .int (nI wd), .ref (md 9), .long ((oneF nu ni no j w (c9, d9)).2.1), .long (b), .long ((oneF nu ni no j w (c9, d9)).2.1), .long ((oneF nu ni no j w (c9, d9)).2.2)])), (md 4, aI g 48 nu), (md 5, aZ g 12 am)] H := hP
              have hD : va_D A [(md 0, .inr (4, [.int (xt), .int (nI mi), .int (nI mo), .int (nI mw), .ref (md 1), .ref (md 2), .ref (md 3), .int (nI ni), .int (nI no), .ref (md 4), .ref (md 5), .ref (md 6), .int (nI ns), .ref (md 7), .ref (md 8), .int (nI nb), .int (nI wd), .ref (md 9), .long ((oneF nu ni no j w (c9, d9)).2.1), .long (b), .long ((oneF nu ni no j w (c9, d9)).2.1), .long ((oneF nu ni no j w (c9, d9)).2.2)])), (md 4, aI g 48 nu), (md 5, aZ g 12 am)] := hD
              refine lv_aload_n hx hb dX4_wholes_72 rfl (lv_at hl 1 rfl) ?_
              refine lv_aload_n hx hb dX4_wholes_73 rfl (lv_at hl 1 rfl) ?_
              refine k_get hx hb hts hown hK hP iw_X4_wholes_X4 rfl 0 21 fm_X4_wholes_137 (by decide) rfl rfl dX4_wholes_74 ?_
              refine k_put hx hb hts hown hK hP hD hS iw_X4_wholes_X4 rfl tyX4 tyX4_ok nmX4 0 19 fm_X4_wholes_125 (by decide) rfl rfl rfl rfl rfl (Nat.le_of_ble_eq_true rfl) dX4_wholes_77 (fun H locs hP hD hS => ?_)
              have hP : va_P g.1 vwCl [(md 0, .inr (4, [.int (xt), .int (nI mi), .int (nI mo), .int (nI mw), .ref (md 1), .ref (md 2), .ref (md 3), .int (nI ni), .int (nI no), .ref (md 4), .ref (md 5), .ref (md 6), .int (nI ns), .ref (md 7), .ref (md 8), .int (nI nb), .int (nI wd), .ref (md 9), .long ((oneF nu ni no j w (c9, d9)).2.1), .long ((oneF nu ni no j w (c9, d9)).2.2), .long ((oneF nu ni no j w (c9, d9)).2.1), .long ((oneF nu ni no j w (c9, d9)).2.2)])), (md 4, aI g 48 nu), (md 5, aZ g 12 am)] H := hP
              have hD : va_D A [(md 0, .inr (4, [.int (xt), .int (nI mi), .int (nI mo), .int (nI mw), .ref (md 1), .ref (md 2), .ref (md 3), .int (nI ni), .int (nI no), .ref (md 4), .ref (md 5), .ref (md 6), .int (nI ns), .ref (md 7), .ref (md 8), .int (nI nb), .int (nI wd), .ref (md 9), .long ((oneF nu ni no j w (c9, d9)).2.1), .long ((oneF nu ni no j w (c9, d9)).2.2), .long ((oneF nu ni no j w (c9, d9)).2.1), .long ((oneF nu ni no j w (c9, d9)).2.2)])), (md 4, aI g 48 nu), (md 5, aZ g 12 am)] := hD
              refine lv_iinc (v := nI (j + 1)) (lv' := [(3, .int (nI (j + 1))), (2, .int (bI true)), (0, .ref (md 0)), (1, .int (nI w))]) hx hb dX4_wholes_80 hl (k := 3) rfl (nI_inc1 j) (by decide) rfl (fun ls hl => ?_)
              refine lv_goto (tgt := 4) hx hb dX4_wholes_83 (by decide) ?_
              exact ih_4 (j + 1) true ((oneF nu ni no j w (c9, d9)).2.1) ((oneF nu ni no j w (c9, d9)).2.2) ((oneF nu ni no j w (c9, d9)).2.1) ((oneF nu ni no j w (c9, d9)).2.2) (by omega) (by omega) hv2 _ _ hP hD hS ls (lv_sub hl [2, 3, 1, 0] rfl)
            · skip
              have hq1 := bI_ne0.mp c_7
              refine lv_aload_n hx hb dX4_wholes_37 rfl (lv_at hl 0 rfl) ?_
              refine k_get hx hb hts hown hK hP iw_X4_wholes_X4 rfl 0 20 fm_X4_wholes_134 (by decide) rfl rfl dX4_wholes_38 ?_
              refine lv_aload_n hx hb dX4_wholes_41 rfl (lv_at hl 0 rfl) ?_
              refine k_get hx hb hts hown hK hP iw_X4_wholes_X4 rfl 0 19 fm_X4_wholes_125 (by decide) rfl rfl dX4_wholes_42 ?_
              refine lv_lmul hx hb dX4_wholes_45 ?_
              refine lv_aload_n hx hb dX4_wholes_46 rfl (lv_at hl 0 rfl) ?_
              refine k_get hx hb hts hown hK hP iw_X4_wholes_X4 rfl 0 18 fm_X4_wholes_121 (by decide) rfl rfl dX4_wholes_47 ?_
              refine lv_aload_n hx hb dX4_wholes_50 rfl (lv_at hl 0 rfl) ?_
              refine k_get hx hb hts hown hK hP iw_X4_wholes_X4 rfl 0 21 fm_X4_wholes_137 (by decide) rfl rfl dX4_wholes_51 ?_
              refine lv_lmul hx hb dX4_wholes_54 ?_
              refine W.lcmp hx hb dX4_wholes_55 ?_
              refine lv_if_lt (tgt := 62) hx hb dX4_wholes_56 (by decide) (fun c_8 => ?_) (fun c_8 => ?_)
              · skip
                have c_8 := (lc_lt _ _).mp c_8
                have hv2 : whF nu am ni no w 0 mw (false, tp, bl, wt, wb) = whF nu am ni no w (j + 1) (mw - (j + 1)) (true, (oneF nu ni no j w (c9, d9)).2.1, (oneF nu ni no j w (c9, d9)).2.2, (oneF nu ni no j w (c9, d9)).2.1, (oneF nu ni no j w (c9, d9)).2.2) := by rw [hv, show mw - j = (mw - (j + 1)) + 1 by omega, whF, whS, if_neg ham, whE, if_neg (fun z => z.elim (fun z => by rw [hon] at z; cases z) (fun z => z.2 c_8))]
                refine lv_iconst (v := nI 1) hx hb dX4_wholes_62 (by decide) ?_
                refine lv_istore_n (lv' := [(2, .int (bI true)), (0, .ref (md 0)), (1, .int (nI w)), (3, .int (nI j))]) hx hb dX4_wholes_63 rfl hl (by decide) rfl (fun ls hl => ?_)
                refine lv_aload_n hx hb dX4_wholes_64 rfl (lv_at hl 1 rfl) ?_
                refine lv_aload_n hx hb dX4_wholes_65 rfl (lv_at hl 1 rfl) ?_
                refine k_get hx hb hts hown hK hP iw_X4_wholes_X4 rfl 0 20 fm_X4_wholes_134 (by decide) rfl rfl dX4_wholes_66 ?_
                refine k_put hx hb hts hown hK hP hD hS iw_X4_wholes_X4 rfl tyX4 tyX4_ok nmX4 0 18 fm_X4_wholes_121 (by decide) rfl rfl rfl rfl rfl (Nat.le_of_ble_eq_true rfl) dX4_wholes_69 (fun H locs hP hD hS => ?_)
                have hP : va_P g.1 vwCl [(md 0, .inr (4, [.int (xt), .int (nI mi), .int (nI mo), .int (nI mw), .ref (md 1), .ref (md 2), .ref (md 3), .int (nI ni), .int (nI no), .ref (md 4), .ref (md 5), .ref (md 6), .int (nI ns), .ref (md 7), .ref (md 8), .int (nI nb), .int (nI wd), .ref (md 9), .long ((oneF nu ni no j w (c9, d9)).2.1), .long (b), .long ((oneF nu ni no j w (c9, d9)).2.1), .long ((oneF nu ni no j w (c9, d9)).2.2)])), (md 4, aI g 48 nu), (md 5, aZ g 12 am)] H := hP
                have hD : va_D A [(md 0, .inr (4, [.int (xt), .int (nI mi), .int (nI mo), .int (nI mw), .ref (md 1), .ref (md 2), .ref (md 3), .int (nI ni), .int (nI no), .ref (md 4), .ref (md 5), .ref (md 6), .int (nI ns), .ref (md 7), .ref (md 8), .int (nI nb), .int (nI wd), .ref (md 9), .long ((oneF nu ni no j w (c9, d9)).2.1), .long (b), .long ((oneF nu ni no j w (c9, d9)).2.1), .long ((oneF nu ni no j w (c9, d9)).2.2)])), (md 4, aI g 48 nu), (md 5, aZ g 12 am)] := hD
                refine lv_aload_n hx hb dX4_wholes_72 rfl (lv_at hl 1 rfl) ?_
                refine lv_aload_n hx hb dX4_wholes_73 rfl (lv_at hl 1 rfl) ?_
                refine k_get hx hb hts hown hK hP iw_X4_wholes_X4 rfl 0 21 fm_X4_wholes_137 (by decide) rfl rfl dX4_wholes_74 ?_
                refine k_put hx hb hts hown hK hP hD hS iw_X4_wholes_X4 rfl tyX4 tyX4_ok nmX4 0 19 fm_X4_wholes_125 (by decide) rfl rfl rfl rfl rfl (Nat.le_of_ble_eq_true rfl) dX4_wholes_77 (fun H locs hP hD hS => ?_)
                have hP : va_P g.1 vwCl [(md 0, .inr (4, [.int (xt), .int (nI mi), .int (nI mo), .int (nI mw), .ref (md 1), .ref (md 2), .ref (md 3), .int (nI ni), .int (nI no), .ref (md 4), .ref (md 5), .ref (md 6), .int (nI ns), .ref (md 7), .ref (md 8), .int (nI nb), .int (nI wd), .ref (md 9), .long ((oneF nu ni no j w (c9, d9)).2.1), .long ((oneF nu ni no j w (c9, d9)).2.2), .long ((oneF nu ni no j w (c9, d9)).2.1), .long ((oneF nu ni no j w (c9, d9)).2.2)])), (md 4, aI g 48 nu), (md 5, aZ g 12 am)] H := hP
                have hD : va_D A [(md 0, .inr (4, [.int (xt), .int (nI mi), .int (nI mo), .int (nI mw), .ref (md 1), .ref (md 2), .ref (md 3), .int (nI ni), .int (nI no), .ref (md 4), .ref (md 5), .ref (md 6), .int (nI ns), .ref (md 7), .ref (md 8), .int (nI nb), .int (nI wd), .ref (md 9), .long ((oneF nu ni no j w (c9, d9)).2.1), .long ((oneF nu ni no j w (c9, d9)).2.2), .long ((oneF nu ni no j w (c9, d9)).2.1), .long ((oneF nu ni no j w (c9, d9)).2.2)])), (md 4, aI g 48 nu), (md 5, aZ g 12 am)] := hD
                refine lv_iinc (v := nI (j + 1)) (lv' := [(3, .int (nI (j + 1))), (2, .int (bI true)), (0, .ref (md 0)), (1, .int (nI w))]) hx hb dX4_wholes_80 hl (k := 3) rfl (nI_inc1 j) (by decide) rfl (fun ls hl => ?_)
                refine lv_goto (tgt := 4) hx hb dX4_wholes_83 (by decide) ?_
                exact ih_4 (j + 1) true ((oneF nu ni no j w (c9, d9)).2.1) ((oneF nu ni no j w (c9, d9)).2.2) ((oneF nu ni no j w (c9, d9)).2.1) ((oneF nu ni no j w (c9, d9)).2.2) (by omega) (by omega) hv2 _ _ hP hD hS ls (lv_sub hl [2, 3, 1, 0] rfl)
              · skip
                have c_8 := mt (lc_lt _ _).mpr c_8
                have hv2 : whF nu am ni no w 0 mw (false, tp, bl, wt, wb) = whF nu am ni no w (j + 1) (mw - (j + 1)) (q, a, b, (oneF nu ni no j w (c9, d9)).2.1, (oneF nu ni no j w (c9, d9)).2.2) := by rw [hv, show mw - j = (mw - (j + 1)) + 1 by omega, whF, whS, if_neg ham, whE, if_pos (Or.inr ⟨hq1, c_8⟩)]
                refine lv_goto (tgt := 80) hx hb dX4_wholes_59 (by decide) ?_
                refine lv_iinc (v := nI (j + 1)) (lv' := [(3, .int (nI (j + 1))), (0, .ref (md 0)), (1, .int (nI w)), (2, .int (bI q))]) hx hb dX4_wholes_80 hl (k := 3) rfl (nI_inc1 j) (by decide) rfl (fun ls hl => ?_)
                refine lv_goto (tgt := 4) hx hb dX4_wholes_83 (by decide) ?_
                exact ih_4 (j + 1) q a b ((oneF nu ni no j w (c9, d9)).2.1) ((oneF nu ni no j w (c9, d9)).2.2) (by omega) (by omega) hv2 _ _ hP hD hS ls (lv_sub hl [1, 2, 3, 0] rfl)
          · skip
            have hv2 : whF nu am ni no w 0 mw (false, tp, bl, wt, wb) = whF nu am ni no w (j + 1) (mw - (j + 1)) (q, a, b, (oneF nu ni no j w (c9, d9)).2.1, (oneF nu ni no j w (c9, d9)).2.2) := by rw [hv, show mw - j = (mw - (j + 1)) + 1 by omega, whF, whS, if_neg ham, whE, if_pos (Or.inl (bI_eq0.mp c_6))]
            refine lv_goto (tgt := 80) hx hb dX4_wholes_30 (by decide) ?_
            refine lv_iinc (v := nI (j + 1)) (lv' := [(3, .int (nI (j + 1))), (0, .ref (md 0)), (1, .int (nI w)), (2, .int (bI q))]) hx hb dX4_wholes_80 hl (k := 3) rfl (nI_inc1 j) (by decide) rfl (fun ls hl => ?_)
            refine lv_goto (tgt := 4) hx hb dX4_wholes_83 (by decide) ?_
            exact ih_4 (j + 1) q a b ((oneF nu ni no j w (c9, d9)).2.1) ((oneF nu ni no j w (c9, d9)).2.2) (by omega) (by omega) hv2 _ _ hP hD hS ls (lv_sub hl [1, 2, 3, 0] rfl)
  exact lp_4 (mw - 0 + 1) 0 false tp bl wt wb (by omega) (by omega) rfl _ _ hP hD hS ls (lv_sub hl [2, 3, 1, 0] rfl)
theorem iw_X4_part_X4 : ∀ w ∈ wsX40, w ∈ wsX4_part := fun w h => List.mem_cons_of_mem _ (List.mem_append_right _ h)
theorem fm_X4_part_121 : Cond.fieldLink RX4 121 "EdgeBenchModel" "top" "J" ∈ wsX4_part := List.mem_of_getElem? (i := 1) rfl
theorem fm_X4_part_125 : Cond.fieldLink RX4 125 "EdgeBenchModel" "below" "J" ∈ wsX4_part := List.mem_of_getElem? (i := 2) rfl
theorem cw_X4_part_101_1_40 {R : Room} {s : State} {args : Array Value} (hts : ∀ w ∈ wsX4_part, w.before args s = true) (hN : nsW s) (hR : 1 + 1 ≤ R.frames ∧ 8 + (10 + 11) + 40 ≤ R.locals) : CallB R s args RX4 101 yX4_common cX4_common 10 (some .long) wsX4_common { frames := 1, cells := 0, slots := 0, locals := 40 } 0 0 2 ∧ (Cond.static yX4_common).before args s = true := va_cwS 2 hts gX4_part_X4_common rfl rfl rfl hdn_X4_common hR
set_option maxHeartbeats 20000000 in
set_option maxRecDepth 100000 in
theorem c_X4_part (l : Launch) (g : Gt) (md : Nat → Nat) (xt : Int32) (mi : Nat) (mo : Nat) (mw : Nat) (ni : Nat) (no : Nat) (ns : Nat) (nb : Nat) (wd : Nat) (tp : Int64) (bl : Int64) (wt : Int64) (wb : Int64) (wh : Int32) (hnz : ¬ cmD tp bl = 0) : CL l yX4_part wsX4_part { frames := 2, cells := 0, slots := 0, locals := 69 } g [.ref (md 0), .int (wh)] [(md 0, .inr (4, [.int (xt), .int (nI mi), .int (nI mo), .int (nI mw), .ref (md 1), .ref (md 2), .ref (md 3), .int (nI ni), .int (nI no), .ref (md 4), .ref (md 5), .ref (md 6), .int (nI ns), .ref (md 7), .ref (md 8), .int (nI nb), .int (nI wd), .ref (md 9), .long (tp), .long (bl), .long (wt), .long (wb)]))] (fun zr (zu : Unit) => zr = ptM tp bl wh) (fun (zu : Unit) => [(md 0, .inr (4, [.int (xt), .int (nI mi), .int (nI mo), .int (nI mw), .ref (md 1), .ref (md 2), .ref (md 3), .int (nI ni), .int (nI no), .ref (md 4), .ref (md 5), .ref (md 6), .int (nI ns), .ref (md 7), .ref (md 8), .int (nI nb), .int (nI wd), .ref (md 9), .long (tp), .long (bl), .long (wt), .long (wb)]))]) 0 0 := by
  refine ent_l (cc := cX4_part) (maxL := 4) (by decide) rfl (Nat.le_of_ble_eq_true rfl) ?_
  intro p e s m below meth c A args Q hE ret ls hl
  obtain ⟨hx, hb, hml, hown, hts, hnm, hA, hP, hD, hK, hN⟩ := hE
  have hS : va_S A s.heap s.heap [] := va_S.rf
  have hl : lv_has ls 4 [(0, .ref (md 0)), (1, .int (wh))] := hl
  have hP : va_P g.1 vwCl [(md 0, .inr (4, [.int (xt), .int (nI mi), .int (nI mo), .int (nI mw), .ref (md 1), .ref (md 2), .ref (md 3), .int (nI ni), .int (nI no), .ref (md 4), .ref (md 5), .ref (md 6), .int (nI ns), .ref (md 7), .ref (md 8), .int (nI nb), .int (nI wd), .ref (md 9), .long (tp), .long (bl), .long (wt), .long (wb)]))] s.heap := hP
  refine lv_aload_n hx hb dX4_part_0 rfl (lv_at hl 0 rfl) ?_
  refine k_get hx hb hts hown hK hP iw_X4_part_X4 rfl 0 18 fm_X4_part_121 (by decide) rfl rfl dX4_part_1 ?_
  refine lv_aload_n hx hb dX4_part_4 rfl (lv_at hl 0 rfl) ?_
  refine k_get hx hb hts hown hK hP iw_X4_part_X4 rfl 0 19 fm_X4_part_125 (by decide) rfl rfl dX4_part_5 ?_
  refine go_l (wc := []) (wr := [(md 0, .inr (4, [.int (xt), .int (nI mi), .int (nI mo), .int (nI mw), .ref (md 1), .ref (md 2), .ref (md 3), .int (nI ni), .int (nI no), .ref (md 4), .ref (md 5), .ref (md 6), .int (nI ns), .ref (md 7), .ref (md 8), .int (nI nb), .int (nI wd), .ref (md 9), .long (tp), .long (bl), .long (wt), .long (wb)]))]) hP hD hS hA [] [0] rfl rfl rfl rfl (by decide) (fun hPc hDc => rn_S (As := [.long (tp), .long (bl)]) (rest := []) ⟨hx, hb, hml, hown, hts⟩ ((c_X4_common l g tp bl ) _) (cw_X4_part_101_1_40 hts hN ⟨Nat.le_of_ble_eq_true rfl, Nat.le_of_ble_eq_true rfl⟩) hK hN hPc hDc rfl rfl hl.1 (Nat.le_of_ble_eq_true rfl) dX4_part_8 ⟨Nat.le_of_ble_eq_true rfl, Nat.le_of_ble_eq_true rfl⟩) ?_
  intro r_1 u_2 H locs h_3 hP hD hS
  have hP : va_P g.1 vwCl [(md 0, .inr (4, [.int (xt), .int (nI mi), .int (nI mo), .int (nI mw), .ref (md 1), .ref (md 2), .ref (md 3), .int (nI ni), .int (nI no), .ref (md 4), .ref (md 5), .ref (md 6), .int (nI ns), .ref (md 7), .ref (md 8), .int (nI nb), .int (nI wd), .ref (md 9), .long (tp), .long (bl), .long (wt), .long (wb)]))] H := hP.sub [0] rfl
  have hD : va_D A [(md 0, .inr (4, [.int (xt), .int (nI mi), .int (nI mo), .int (nI mw), .ref (md 1), .ref (md 2), .ref (md 3), .int (nI ni), .int (nI no), .ref (md 4), .ref (md 5), .ref (md 6), .int (nI ns), .ref (md 7), .ref (md 8), .int (nI nb), .int (nI wd), .ref (md 9), .long (tp), .long (bl), .long (wt), .long (wb)]))] := hD.sub [0] rfl rfl
  have h_3 : r_1 = cmD tp bl := h_3
  subst h_3
  refine lv_lstore_n (lv' := [(2, .long (cmD tp bl)), (0, .ref (md 0)), (1, .int (wh))]) hx hb dX4_part_11 rfl hl (by decide) rfl (fun ls hl => ?_)
  refine lv_iload_n hx hb dX4_part_12 rfl (lv_at hl 2 rfl) ?_
  refine lv_if_ne (tgt := 25) hx hb dX4_part_13 (by decide) (fun c_4 => ?_) (fun c_4 => ?_)
  · skip
    have hres : ptM tp bl wh = bl / cmD tp bl := if_neg c_4
    refine lv_aload_n hx hb dX4_part_25 rfl (lv_at hl 1 rfl) ?_
    refine k_get hx hb hts hown hK hP iw_X4_part_X4 rfl 0 19 fm_X4_part_125 (by decide) rfl rfl dX4_part_26 ?_
    refine lv_lload_n hx hb dX4_part_29 rfl (lv_at hl 0 rfl) ?_
    refine lv_ldiv hx hb dX4_part_30 (hnz) ?_
    exact ret dX4_part_31 () (hres.symm) hP hD hS
  · skip
    have hres : ptM tp bl wh = tp / cmD tp bl := if_pos c_4
    refine lv_aload_n hx hb dX4_part_16 rfl (lv_at hl 1 rfl) ?_
    refine k_get hx hb hts hown hK hP iw_X4_part_X4 rfl 0 18 fm_X4_part_121 (by decide) rfl rfl dX4_part_17 ?_
    refine lv_lload_n hx hb dX4_part_20 rfl (lv_at hl 0 rfl) ?_
    refine lv_ldiv hx hb dX4_part_21 (hnz) ?_
    refine lv_goto (tgt := 31) hx hb dX4_part_22 (by decide) ?_
    exact ret dX4_part_31 () (hres.symm) hP hD hS
theorem iw_X4_shares_X4 : ∀ w ∈ wsX40, w ∈ wsX4_shares := fun w h => List.mem_cons_of_mem _ (List.mem_append_right _ h)
theorem fm_X4_shares_49 : Cond.fieldLink RX4 49 "EdgeBenchModel" "works" "I" ∈ wsX4_shares := List.mem_of_getElem? (i := 1) rfl
theorem hdn_X4_wholes : yX4_wholes.cls ≠ "java/lang/invoke/MethodHandle" ∧ yX4_wholes.cls ≠ "java/lang/invoke/VarHandle" ∧ (parseMethodDescriptor yX4_wholes.desc).map (fun d => d.parameters.length) = some 1 := by decide +kernel
theorem cw_X4_shares_115_1_27 {R : Room} {s : State} {args : Array Value} (hts : ∀ w ∈ wsX4_shares, w.before args s = true) (hN : nsW s) (hR : 1 + 1 ≤ R.frames ∧ 8 + (4 + 11) + 27 ≤ R.locals) : CallW R s args RX4 RX4 115 yX4_wholes cX4_wholes 4 (some .boolean) wsX4_wholes { frames := 1, cells := 0, slots := 0, locals := 27 } 0 0 1 := cwV 1 hts gX4_shares_X4_wholes rfl rfl rfl ⟨rfl, hdn_X4_wholes⟩ hR
theorem fm_X4_shares_30 : Cond.fieldLink RX4 30 "EdgeBenchModel" "among" "[Z" ∈ wsX4_shares := List.mem_of_getElem? (i := 2) rfl
set_option maxHeartbeats 20000000 in
set_option maxRecDepth 100000 in
theorem c_X4_shares3 (l : Launch) (g : Gt) (md : Nat → Nat) (xt : Int32) (mi : Nat) (mo : Nat) (mw : Nat) (ni : Nat) (no : Nat) (ns : Nat) (nb : Nat) (wd : Nat) (tp : Int64) (bl : Int64) (wt : Int64) (wb : Int64) (nu : Nat → Int32) (am : Nat → Int32) (w : Nat) (hw : w < 12) (hmw : mw ≤ 12) (hni : ni ≤ 2) (hno : no ≤ 2) : CI l yX4_shares wsX4_shares { frames := 2, cells := 0, slots := 0, locals := 50 } g [.ref (md 0), .int (nI 3), .int (nI w)] [(md 0, .inr (4, [.int (xt), .int (nI mi), .int (nI mo), .int (nI mw), .ref (md 1), .ref (md 2), .ref (md 3), .int (nI ni), .int (nI no), .ref (md 4), .ref (md 5), .ref (md 6), .int (nI ns), .ref (md 7), .ref (md 8), .int (nI nb), .int (nI wd), .ref (md 9), .long (tp), .long (bl), .long (wt), .long (wb)])), (md 4, aI g 48 nu), (md 5, aZ g 12 am)] (fun zr (zu : Int64 × Int64 × Int64 × Int64) => shW nu am ni no mw w tp bl wt wb zr zu.1 zu.2.1) (fun (zu : Int64 × Int64 × Int64 × Int64) => [(md 0, .inr (4, [.int (xt), .int (nI mi), .int (nI mo), .int (nI mw), .ref (md 1), .ref (md 2), .ref (md 3), .int (nI ni), .int (nI no), .ref (md 4), .ref (md 5), .ref (md 6), .int (nI ns), .ref (md 7), .ref (md 8), .int (nI nb), .int (nI wd), .ref (md 9), .long (zu.1), .long (zu.2.1), .long (zu.2.2.1), .long (zu.2.2.2)])), (md 4, aI g 48 nu), (md 5, aZ g 12 am)]) 0 0 := by
  refine ent_z (cc := cX4_shares) (maxL := 9) (by decide) rfl (Nat.le_of_ble_eq_true rfl) ?_
  intro p e s m below meth c A args Q hE ret ls hl
  obtain ⟨hx, hb, hml, hown, hts, hnm, hA, hP, hD, hK, hN⟩ := hE
  have hS : va_S A s.heap s.heap [] := va_S.rf
  have hl : lv_has ls 9 [(0, .ref (md 0)), (1, .int (nI 3)), (2, .int (nI w))] := hl
  have hP : va_P g.1 vwCl [(md 0, .inr (4, [.int (xt), .int (nI mi), .int (nI mo), .int (nI mw), .ref (md 1), .ref (md 2), .ref (md 3), .int (nI ni), .int (nI no), .ref (md 4), .ref (md 5), .ref (md 6), .int (nI ns), .ref (md 7), .ref (md 8), .int (nI nb), .int (nI wd), .ref (md 9), .long (tp), .long (bl), .long (wt), .long (wb)])), (md 4, aI g 48 nu), (md 5, aZ g 12 am)] s.heap := hP
  refine lv_iconst (v := nI 0) hx hb dX4_shares_0 (by decide) ?_
  refine lv_istore_n (lv' := [(3, .int (bI false)), (0, .ref (md 0)), (1, .int (nI 3)), (2, .int (nI w))]) hx hb dX4_shares_1 rfl hl (by decide) rfl (fun ls hl => ?_)
  refine lv_iconst (v := nI 0) hx hb dX4_shares_2 (by decide) ?_
  refine lv_istore (lv' := [(4, .int (nI 0)), (3, .int (bI false)), (0, .ref (md 0)), (1, .int (nI 3)), (2, .int (nI w))]) hx hb dX4_shares_3 hl (by decide) rfl (fun ls hl => ?_)
  have lp_5 : ∀ (n : Nat) (k : Nat) (q : Bool), mw - k < n → k ≤ mw → anB am 0 mw false = anB am k (mw - k) q → ∀ (H : Heap) (locs : List Loc), va_P g.1 vwCl [(md 0, .inr (4, [.int (xt), .int (nI mi), .int (nI mo), .int (nI mw), .ref (md 1), .ref (md 2), .ref (md 3), .int (nI ni), .int (nI no), .ref (md 4), .ref (md 5), .ref (md 6), .int (nI ns), .ref (md 7), .ref (md 8), .int (nI nb), .int (nI wd), .ref (md 9), .long (tp), .long (bl), .long (wt), .long (wb)])), (md 4, aI g 48 nu), (md 5, aZ g 12 am)] H → va_D A [(md 0, .inr (4, [.int (xt), .int (nI mi), .int (nI mo), .int (nI mw), .ref (md 1), .ref (md 2), .ref (md 3), .int (nI ni), .int (nI no), .ref (md 4), .ref (md 5), .ref (md 6), .int (nI ns), .ref (md 7), .ref (md 8), .int (nI nb), .int (nI wd), .ref (md 9), .long (tp), .long (bl), .long (wt), .long (wb)])), (md 4, aI g 48 nu), (md 5, aZ g 12 am)] → va_S A s.heap H locs → ∀ ls : Array Slot, lv_has ls 9 [(0, .ref (md 0)), (1, .int (nI 3)), (2, .int (nI w)), (3, .int (bI q)), (4, .int (nI k))] → W p l e { frames := 2, cells := 0, slots := 0, locals := 50 } s m args below meth c H locs 0 0 Q (F0 m 5 ls []) := by
    intro n
    induction n with
    | zero =>
      intro k q hms
      omega
    | succ n ih_5 =>
      intro k q hms_5 hk hv H locs hP hD hS ls hl
      refine lv_iload hx hb dX4_shares_5 (lv_at hl 4 rfl) ?_
      refine lv_aload_n hx hb dX4_shares_7 rfl (lv_at hl 0 rfl) ?_
      refine k_get hx hb hts hown hK hP iw_X4_shares_X4 rfl 0 3 fm_X4_shares_49 (by decide) rfl rfl dX4_shares_8 ?_
      refine lv_icmp_ge (tgt := 40) hx hb dX4_shares_11 (by decide) (fun c_1 => ?_) (fun c_1 => ?_)
      · skip
        have c_1 := (nI_leI (by omega) (by omega)).mp c_1
        have hany : anB am 0 mw false = q := by rw [hv, show mw - k = 0 by omega]; rfl
        refine lv_iload_n hx hb dX4_shares_40 rfl (lv_at hl 3 rfl) ?_
        refine lv_if_ne (tgt := 46) hx hb dX4_shares_41 (by decide) (fun c_2 => ?_) (fun c_2 => ?_)
        · skip
          have hq1 : anB am 0 mw false = true := by rw [hany]; exact bI_ne0.mp c_2
          refine lv_iload_n hx hb dX4_shares_46 rfl (lv_at hl 1 rfl) ?_
          refine lv_iconst (v := nI 3) hx hb dX4_shares_47 (by decide) ?_
          refine lv_icmp_ne (tgt := 57) hx hb dX4_shares_48 (by decide) (fun c_3 => ?_) (fun c_3 => ?_)
          · skip
            have c_3 := mt (nI_eq (by omega) (by omega)).mpr c_3
            omega
          · skip
            have c_3 := (nI_eq (by omega) (by omega)).mp c_3
            refine lv_aload_n hx hb dX4_shares_51 rfl (lv_at hl 0 rfl) ?_
            refine lv_iload_n hx hb dX4_shares_52 rfl (lv_at hl 2 rfl) ?_
            refine go_i (wc := [(md 0, .inr (4, [.int (xt), .int (nI mi), .int (nI mo), .int (nI mw), .ref (md 1), .ref (md 2), .ref (md 3), .int (nI ni), .int (nI no), .ref (md 4), .ref (md 5), .ref (md 6), .int (nI ns), .ref (md 7), .ref (md 8), .int (nI nb), .int (nI wd), .ref (md 9), .long (tp), .long (bl), .long (wt), .long (wb)])), (md 4, aI g 48 nu), (md 5, aZ g 12 am)]) (wr := []) hP hD hS hA [0, 1, 2] [] rfl rfl rfl rfl (by decide) (fun hPc hDc => rn_V (As := [.int (nI w)]) (rest := []) ⟨hx, hb, hml, hown, hts⟩ ((c_X4_wholes l g md xt mi mo mw ni no ns nb wd tp bl wt wb nu am w (by omega) (by omega) (by omega) (by omega)) _) (cw_X4_shares_115_1_27 hts hN ⟨Nat.le_of_ble_eq_true rfl, Nat.le_of_ble_eq_true rfl⟩) hK hN hPc hDc 0 rfl rfl rfl rfl hl.1 (Nat.le_of_ble_eq_true rfl) dX4_shares_53 ⟨Nat.le_of_ble_eq_true rfl, Nat.le_of_ble_eq_true rfl⟩) ?_
            intro r_4 u_5 H locs h_6 hP hD hS
            have hP : va_P g.1 vwCl [(md 0, .inr (4, [.int (xt), .int (nI mi), .int (nI mo), .int (nI mw), .ref (md 1), .ref (md 2), .ref (md 3), .int (nI ni), .int (nI no), .ref (md 4), .ref (md 5), .ref (md 6), .int (nI ns), .ref (md 7), .ref (md 8), .int (nI nb), .int (nI wd), .ref (md 9), .long ((whF nu am ni no w 0 mw (false, tp, bl, wt, wb)).2.1), .long ((whF nu am ni no w 0 mw (false, tp, bl, wt, wb)).2.2.1), .long ((whF nu am ni no w 0 mw (false, tp, bl, wt, wb)).2.2.2.1), .long ((whF nu am ni no w 0 mw (false, tp, bl, wt, wb)).2.2.2.2)])), (md 4, aI g 48 nu), (md 5, aZ g 12 am)] H := hP.sub [0, 1, 2] rfl
            have hD : va_D A [(md 0, .inr (4, [.int (xt), .int (nI mi), .int (nI mo), .int (nI mw), .ref (md 1), .ref (md 2), .ref (md 3), .int (nI ni), .int (nI no), .ref (md 4), .ref (md 5), .ref (md 6), .int (nI ns), .ref (md 7), .ref (md 8), .int (nI nb), .int (nI wd), .ref (md 9), .long ((whF nu am ni no w 0 mw (false, tp, bl, wt, wb)).2.1), .long ((whF nu am ni no w 0 mw (false, tp, bl, wt, wb)).2.2.1), .long ((whF nu am ni no w 0 mw (false, tp, bl, wt, wb)).2.2.2.1), .long ((whF nu am ni no w 0 mw (false, tp, bl, wt, wb)).2.2.2.2)])), (md 4, aI g 48 nu), (md 5, aZ g 12 am)] := hD.sub [0, 1, 2] rfl rfl
            have h_6 : r_4 = bI (whF nu am ni no w 0 mw (false, tp, bl, wt, wb)).1 := h_6
            subst h_6
            exact ret dX4_shares_56 (((whF nu am ni no w 0 mw (false, tp, bl, wt, wb)).2.1, (whF nu am ni no w 0 mw (false, tp, bl, wt, wb)).2.2.1, (whF nu am ni no w 0 mw (false, tp, bl, wt, wb)).2.2.2.1, (whF nu am ni no w 0 mw (false, tp, bl, wt, wb)).2.2.2.2)) (Or.inr ⟨hq1, rfl, rfl, rfl⟩) (bI01 _) hP hD hS
        · skip
          have hq0 : anB am 0 mw false = false := by rw [hany]; exact bI_eq0.mp c_2
          refine lv_iconst (v := nI 0) hx hb dX4_shares_44 (by decide) ?_
          exact ret dX4_shares_45 ((tp, bl, wt, wb)) (Or.inl ⟨hq0, rfl, rfl, rfl⟩) (by decide) hP hD hS
      · skip
        have c_1 := mt (nI_leI (by omega) (by omega)).mpr c_1
        refine lv_iload_n hx hb dX4_shares_14 rfl (lv_at hl 3 rfl) ?_
        have lp_33 : ∀ (qq : Bool), anB am 0 mw false = anB am (k + 1) (mw - (k + 1)) qq → ∀ (H : Heap) (locs : List Loc), va_P g.1 vwCl [(md 0, .inr (4, [.int (xt), .int (nI mi), .int (nI mo), .int (nI mw), .ref (md 1), .ref (md 2), .ref (md 3), .int (nI ni), .int (nI no), .ref (md 4), .ref (md 5), .ref (md 6), .int (nI ns), .ref (md 7), .ref (md 8), .int (nI nb), .int (nI wd), .ref (md 9), .long (tp), .long (bl), .long (wt), .long (wb)])), (md 4, aI g 48 nu), (md 5, aZ g 12 am)] H → va_D A [(md 0, .inr (4, [.int (xt), .int (nI mi), .int (nI mo), .int (nI mw), .ref (md 1), .ref (md 2), .ref (md 3), .int (nI ni), .int (nI no), .ref (md 4), .ref (md 5), .ref (md 6), .int (nI ns), .ref (md 7), .ref (md 8), .int (nI nb), .int (nI wd), .ref (md 9), .long (tp), .long (bl), .long (wt), .long (wb)])), (md 4, aI g 48 nu), (md 5, aZ g 12 am)] → va_S A s.heap H locs → ∀ ls : Array Slot, lv_has ls 9 [(0, .ref (md 0)), (1, .int (nI 3)), (2, .int (nI w)), (4, .int (nI k))] → W p l e { frames := 2, cells := 0, slots := 0, locals := 50 } s m args below meth c H locs 0 0 Q (F0 m 33 ls [.int (bI qq)]) := by
          intro qq hvq H locs hP hD hS ls hl
          refine lv_istore_n (lv' := [(3, .int (bI qq)), (0, .ref (md 0)), (1, .int (nI 3)), (2, .int (nI w)), (4, .int (nI k))]) hx hb dX4_shares_33 rfl hl (by decide) rfl (fun ls hl => ?_)
          refine lv_iinc (v := nI (k + 1)) (lv' := [(4, .int (nI (k + 1))), (3, .int (bI qq)), (0, .ref (md 0)), (1, .int (nI 3)), (2, .int (nI w))]) hx hb dX4_shares_34 hl (k := 4) rfl (nI_inc1 k) (by decide) rfl (fun ls hl => ?_)
          refine lv_goto (tgt := 5) hx hb dX4_shares_37 (by decide) ?_
          exact ih_5 (k + 1) qq (by omega) (by omega) hvq _ _ hP hD hS ls (lv_sub hl [2, 3, 4, 1, 0] rfl)
        refine lv_if_ne (tgt := 28) hx hb dX4_shares_15 (by decide) (fun c_7 => ?_) (fun c_7 => ?_)
        · skip
          have hq := bI_ne0.mp c_7
          have hvr : anB am 0 mw false = anB am (k + 1) (mw - (k + 1)) true := by rw [hv, show mw - k = (mw - (k + 1)) + 1 by omega, anB, hq]; rfl
          refine lv_iconst (v := nI 1) hx hb dX4_shares_28 (by decide) ?_
          refine k_ei (y := bI true) (rfl) ?_
          refine lv_goto (tgt := 33) hx hb dX4_shares_29 (by decide) ?_
          exact lp_33 true hvr _ _ hP hD hS ls (lv_sub hl [0, 1, 2, 4] rfl)
        · skip
          have hq := bI_eq0.mp c_7
          refine lv_aload_n hx hb dX4_shares_18 rfl (lv_at hl 0 rfl) ?_
          refine k_get hx hb hts hown hK hP iw_X4_shares_X4 rfl 0 10 fm_X4_shares_30 (by decide) rfl rfl dX4_shares_19 ?_
          refine lv_iload hx hb dX4_shares_22 (lv_at hl 4 rfl) ?_
          refine k_zald hx hb hK hP 2 rfl (by omega) (by omega) dX4_shares_24 ?_
          refine lv_if_eq (tgt := 32) hx hb dX4_shares_25 (by decide) (fun c_8 => ?_) (fun c_8 => ?_)
          · skip
            have hvr : anB am 0 mw false = anB am (k + 1) (mw - (k + 1)) false := by rw [hv, show mw - k = (mw - (k + 1)) + 1 by omega, anB, hq, decide_eq_true c_8]; rfl
            refine lv_iconst (v := nI 0) hx hb dX4_shares_32 (by decide) ?_
            refine k_ei (y := bI false) (rfl) ?_
            exact lp_33 false hvr _ _ hP hD hS ls (lv_sub hl [0, 1, 2, 4] rfl)
          · skip
            have hvr : anB am 0 mw false = anB am (k + 1) (mw - (k + 1)) true := by rw [hv, show mw - k = (mw - (k + 1)) + 1 by omega, anB, hq, decide_eq_false c_8]; rfl
            refine lv_iconst (v := nI 1) hx hb dX4_shares_28 (by decide) ?_
            refine k_ei (y := bI true) (rfl) ?_
            refine lv_goto (tgt := 33) hx hb dX4_shares_29 (by decide) ?_
            exact lp_33 true hvr _ _ hP hD hS ls (lv_sub hl [0, 1, 2, 4] rfl)
  exact lp_5 (mw - 0 + 1) 0 false (by omega) (by omega) rfl _ _ hP hD hS ls (lv_sub hl [2, 3, 4, 1, 0] rfl)
theorem hdn_X4_allSides : yX4_allSides.cls ≠ "java/lang/invoke/MethodHandle" ∧ yX4_allSides.cls ≠ "java/lang/invoke/VarHandle" ∧ (parseMethodDescriptor yX4_allSides.desc).map (fun d => d.parameters.length) = some 1 := by decide +kernel
theorem cw_X4_shares_118_11_278 {R : Room} {s : State} {args : Array Value} (hts : ∀ w ∈ wsX4_shares, w.before args s = true) (hN : nsW s) (hR : 11 + 1 ≤ R.frames ∧ 8 + (2 + 11) + 278 ≤ R.locals) : CallW R s args RX4 RX4 118 yX4_allSides cX4_allSides 2 none wsX4_allSides { frames := 11, cells := 0, slots := 0, locals := 278 } 0 0 1 := cwV 1 hts gX4_shares_X4_allSides rfl rfl rfl ⟨rfl, hdn_X4_allSides⟩ hR
theorem fm_X4_shares_121 : Cond.fieldLink RX4 121 "EdgeBenchModel" "top" "J" ∈ wsX4_shares := List.mem_of_getElem? (i := 3) rfl
theorem fm_X4_shares_125 : Cond.fieldLink RX4 125 "EdgeBenchModel" "below" "J" ∈ wsX4_shares := List.mem_of_getElem? (i := 4) rfl
theorem fm_X4_shares_81 : Cond.fieldLink RX4 81 "EdgeBenchModel" "sides" "I" ∈ wsX4_shares := List.mem_of_getElem? (i := 5) rfl
theorem cw_X4_shares_128_0_0 {R : Room} {s : State} {args : Array Value} (hts : ∀ w ∈ wsX4_shares, w.before args s = true) (hN : nsW s) (hR : 0 + 1 ≤ R.frames ∧ 8 + (6 + 11) + 0 ≤ R.locals) : CallW R s args RX4 RX4 128 yX4_inWeighed cX4_inWeighed 6 (some .long) wsX4_inWeighed { frames := 0, cells := 0, slots := 0, locals := 0 } 0 0 2 := cwV 2 hts gX4_shares_X4_inWeighed rfl rfl rfl ⟨rfl, hdn_X4_inWeighed⟩ hR
theorem cw_X4_shares_131_0_0 {R : Room} {s : State} {args : Array Value} (hts : ∀ w ∈ wsX4_shares, w.before args s = true) (hN : nsW s) (hR : 0 + 1 ≤ R.frames ∧ 8 + (6 + 11) + 0 ≤ R.locals) : CallW R s args RX4 RX4 131 yX4_outWeighed cX4_outWeighed 6 (some .long) wsX4_outWeighed { frames := 0, cells := 0, slots := 0, locals := 0 } 0 0 2 := cwV 2 hts gX4_shares_X4_outWeighed rfl rfl rfl ⟨rfl, hdn_X4_outWeighed⟩ hR
set_option maxHeartbeats 20000000 in
set_option maxRecDepth 100000 in
theorem c_X4_shares (l : Launch) (g : Gt) (md : Nat → Nat) (xt : Int32) (mi : Nat) (mo : Nat) (mw : Nat) (ni : Nat) (no : Nat) (ns : Nat) (nb : Nat) (wd : Nat) (tp : Int64) (bl : Int64) (wt : Int64) (wb : Int64) (nu : Nat → Int32) (am : Nat → Int32) (bd : Nat → Int64) (ch : Nat → Nat) (wy : Nat → Int64) (sd : Nat → Int64) (v : Nat) (w : Nat) (hv2 : v ≤ 2) (hw : w < 12) (hmw : mw ≤ 12) (hni : ni ≤ 2) (hno : no ≤ 2) (hni1 : 1 ≤ ni) (hno1 : 1 ≤ no) : CI l yX4_shares wsX4_shares { frames := 12, cells := 0, slots := 0, locals := 299 } g [.ref (md 0), .int (nI v), .int (nI w)] [(md 0, .inr (4, [.int (xt), .int (nI mi), .int (nI mo), .int (nI mw), .ref (md 1), .ref (md 2), .ref (md 3), .int (nI ni), .int (nI no), .ref (md 4), .ref (md 5), .ref (md 6), .int (nI ns), .ref (md 7), .ref (md 8), .int (nI nb), .int (nI wd), .ref (md 9), .long (tp), .long (bl), .long (wt), .long (wb)])), (md 4, aI g 48 nu), (md 5, aZ g 12 am), (md 7, aJ g 85 bd), (md 9, aI g 5 (fun j => nI (ch j))), (md 8, aJ g 5 wy), (md 6, aJ g 13000 sd)] (fun zr (zu : Nat × Nat × Nat × (Nat → Int64) × (Nat → Nat) × (Nat → Int64) × (Nat → Int64) × Int64 × Int64) => shQ nu am ni no mw v w tp bl zr zu.1 zu.2.2.2.2.2.2.1 zu.2.2.2.2.2.2.2.1 zu.2.2.2.2.2.2.2.2) (fun (zu : Nat × Nat × Nat × (Nat → Int64) × (Nat → Nat) × (Nat → Int64) × (Nat → Int64) × Int64 × Int64) => [(md 0, .inr (4, [.int (xt), .int (nI mi), .int (nI mo), .int (nI mw), .ref (md 1), .ref (md 2), .ref (md 3), .int (nI ni), .int (nI no), .ref (md 4), .ref (md 5), .ref (md 6), .int (nI zu.1), .ref (md 7), .ref (md 8), .int (nI zu.2.1), .int (nI zu.2.2.1), .ref (md 9), .long (zu.2.2.2.2.2.2.2.1), .long (zu.2.2.2.2.2.2.2.2), .long (wt), .long (wb)])), (md 4, aI g 48 nu), (md 5, aZ g 12 am), (md 7, aJ g 85 zu.2.2.2.1), (md 9, aI g 5 (fun j => nI (zu.2.2.2.2.1 j))), (md 8, aJ g 5 zu.2.2.2.2.2.1), (md 6, aJ g 13000 zu.2.2.2.2.2.2.1)]) 0 0 := by
  refine ent_z (cc := cX4_shares) (maxL := 9) (by decide) rfl (Nat.le_of_ble_eq_true rfl) ?_
  intro p e s m below meth c A args Q hE ret ls hl
  obtain ⟨hx, hb, hml, hown, hts, hnm, hA, hP, hD, hK, hN⟩ := hE
  have hS : va_S A s.heap s.heap [] := va_S.rf
  have hl : lv_has ls 9 [(0, .ref (md 0)), (1, .int (nI v)), (2, .int (nI w))] := hl
  have hP : va_P g.1 vwCl [(md 0, .inr (4, [.int (xt), .int (nI mi), .int (nI mo), .int (nI mw), .ref (md 1), .ref (md 2), .ref (md 3), .int (nI ni), .int (nI no), .ref (md 4), .ref (md 5), .ref (md 6), .int (nI ns), .ref (md 7), .ref (md 8), .int (nI nb), .int (nI wd), .ref (md 9), .long (tp), .long (bl), .long (wt), .long (wb)])), (md 4, aI g 48 nu), (md 5, aZ g 12 am), (md 7, aJ g 85 bd), (md 9, aI g 5 (fun j => nI (ch j))), (md 8, aJ g 5 wy), (md 6, aJ g 13000 sd)] s.heap := hP
  refine lv_iconst (v := nI 0) hx hb dX4_shares_0 (by decide) ?_
  refine lv_istore_n (lv' := [(3, .int (bI false)), (0, .ref (md 0)), (1, .int (nI v)), (2, .int (nI w))]) hx hb dX4_shares_1 rfl hl (by decide) rfl (fun ls hl => ?_)
  refine lv_iconst (v := nI 0) hx hb dX4_shares_2 (by decide) ?_
  refine lv_istore (lv' := [(4, .int (nI 0)), (3, .int (bI false)), (0, .ref (md 0)), (1, .int (nI v)), (2, .int (nI w))]) hx hb dX4_shares_3 hl (by decide) rfl (fun ls hl => ?_)
  have lp_5 : ∀ (n : Nat) (k : Nat) (q : Bool), mw - k < n → k ≤ mw → anB am 0 mw false = anB am k (mw - k) q → ∀ (H : Heap) (locs : List Loc), va_P g.1 vwCl [(md 0, .inr (4, [.int (xt), .int (nI mi), .int (nI mo), .int (nI mw), .ref (md 1), .ref (md 2), .ref (md 3), .int (nI ni), .int (nI no), .ref (md 4), .ref (md 5), .ref (md 6), .int (nI ns), .ref (md 7), .ref (md 8), .int (nI nb), .int (nI wd), .ref (md 9), .long (tp), .long (bl), .long (wt), .long (wb)])), (md 4, aI g 48 nu), (md 5, aZ g 12 am), (md 7, aJ g 85 bd), (md 9, aI g 5 (fun j => nI (ch j))), (md 8, aJ g 5 wy), (md 6, aJ g 13000 sd)] H → va_D A [(md 0, .inr (4, [.int (xt), .int (nI mi), .int (nI mo), .int (nI mw), .ref (md 1), .ref (md 2), .ref (md 3), .int (nI ni), .int (nI no), .ref (md 4), .ref (md 5), .ref (md 6), .int (nI ns), .ref (md 7), .ref (md 8), .int (nI nb), .int (nI wd), .ref (md 9), .long (tp), .long (bl), .long (wt), .long (wb)])), (md 4, aI g 48 nu), (md 5, aZ g 12 am), (md 7, aJ g 85 bd), (md 9, aI g 5 (fun j => nI (ch j))), (md 8, aJ g 5 wy), (md 6, aJ g 13000 sd)] → va_S A s.heap H locs → ∀ ls : Array Slot, lv_has ls 9 [(0, .ref (md 0)), (1, .int (nI v)), (2, .int (nI w)), (3, .int (bI q)), (4, .int (nI k))] → W p l e { frames := 12, cells := 0, slots := 0, locals := 299 } s m args below meth c H locs 0 0 Q (F0 m 5 ls []) := by
    intro n
    induction n with
    | zero =>
      intro k q hms
      omega
    | succ n ih_5 =>
      intro k q hms_5 hk hv H locs hP hD hS ls hl
      refine lv_iload hx hb dX4_shares_5 (lv_at hl 4 rfl) ?_
      refine lv_aload_n hx hb dX4_shares_7 rfl (lv_at hl 0 rfl) ?_
      refine k_get hx hb hts hown hK hP iw_X4_shares_X4 rfl 0 3 fm_X4_shares_49 (by decide) rfl rfl dX4_shares_8 ?_
      refine lv_icmp_ge (tgt := 40) hx hb dX4_shares_11 (by decide) (fun c_1 => ?_) (fun c_1 => ?_)
      · skip
        have c_1 := (nI_leI (by omega) (by omega)).mp c_1
        have hany : anB am 0 mw false = q := by rw [hv, show mw - k = 0 by omega]; rfl
        refine lv_iload_n hx hb dX4_shares_40 rfl (lv_at hl 3 rfl) ?_
        refine lv_if_ne (tgt := 46) hx hb dX4_shares_41 (by decide) (fun c_2 => ?_) (fun c_2 => ?_)
        · skip
          have hq1 : anB am 0 mw false = true := by rw [hany]; exact bI_ne0.mp c_2
          refine lv_iload_n hx hb dX4_shares_46 rfl (lv_at hl 1 rfl) ?_
          refine lv_iconst (v := nI 3) hx hb dX4_shares_47 (by decide) ?_
          refine lv_icmp_ne (tgt := 57) hx hb dX4_shares_48 (by decide) (fun c_3 => ?_) (fun c_3 => ?_)
          · skip
            have c_3 := mt (nI_eq (by omega) (by omega)).mpr c_3
            refine lv_aload_n hx hb dX4_shares_57 rfl (lv_at hl 0 rfl) ?_
            refine lv_iload_n hx hb dX4_shares_58 rfl (lv_at hl 1 rfl) ?_
            refine go_v (wc := [(md 0, .inr (4, [.int (xt), .int (nI mi), .int (nI mo), .int (nI mw), .ref (md 1), .ref (md 2), .ref (md 3), .int (nI ni), .int (nI no), .ref (md 4), .ref (md 5), .ref (md 6), .int (nI ns), .ref (md 7), .ref (md 8), .int (nI nb), .int (nI wd), .ref (md 9), .long (tp), .long (bl), .long (wt), .long (wb)])), (md 4, aI g 48 nu), (md 5, aZ g 12 am), (md 7, aJ g 85 bd), (md 9, aI g 5 (fun j => nI (ch j))), (md 8, aJ g 5 wy), (md 6, aJ g 13000 sd)]) (wr := []) hP hD hS hA [0, 1, 2, 3, 4, 5, 6] [] rfl rfl rfl rfl (by decide) (fun hPc hDc => rn_V (As := [.int (nI v)]) (rest := []) ⟨hx, hb, hml, hown, hts⟩ ((c_X4_allSides l g md xt mi mo mw ni no ns nb wd tp bl wt wb nu am bd ch wy sd v (by omega) (by omega) (by omega) (by omega) (by omega) (by omega)) _) (cw_X4_shares_118_11_278 hts hN ⟨Nat.le_of_ble_eq_true rfl, Nat.le_of_ble_eq_true rfl⟩) hK hN hPc hDc 0 rfl rfl rfl rfl hl.1 (Nat.le_of_ble_eq_true rfl) dX4_shares_59 ⟨Nat.le_of_ble_eq_true rfl, Nat.le_of_ble_eq_true rfl⟩) ?_
            intro u_5 H locs h_6 hP hD hS
            have hP : va_P g.1 vwCl [(md 0, .inr (4, [.int (xt), .int (nI mi), .int (nI mo), .int (nI mw), .ref (md 1), .ref (md 2), .ref (md 3), .int (nI ni), .int (nI no), .ref (md 4), .ref (md 5), .ref (md 6), .int (nI ((asF (bnF nu am ni no mw v bd).1 (bnF nu am ni no mw v bd).2 (bnW v (ni + no)) (ni + no) (ch, wy, sd, 0)).2.2.2)), .ref (md 7), .ref (md 8), .int (nI ((bnF nu am ni no mw v bd).2)), .int (nI (bnW v (ni + no))), .ref (md 9), .long (tp), .long (bl), .long (wt), .long (wb)])), (md 4, aI g 48 nu), (md 5, aZ g 12 am), (md 7, aJ g 85 ((bnF nu am ni no mw v bd).1)), (md 9, aI g 5 (fun j => nI (((asF (bnF nu am ni no mw v bd).1 (bnF nu am ni no mw v bd).2 (bnW v (ni + no)) (ni + no) (ch, wy, sd, 0)).1) j))), (md 8, aJ g 5 ((asF (bnF nu am ni no mw v bd).1 (bnF nu am ni no mw v bd).2 (bnW v (ni + no)) (ni + no) (ch, wy, sd, 0)).2.1)), (md 6, aJ g 13000 ((asF (bnF nu am ni no mw v bd).1 (bnF nu am ni no mw v bd).2 (bnW v (ni + no)) (ni + no) (ch, wy, sd, 0)).2.2.1))] H := hP.sub [0, 1, 2, 3, 4, 5, 6] rfl
            have hD : va_D A [(md 0, .inr (4, [.int (xt), .int (nI mi), .int (nI mo), .int (nI mw), .ref (md 1), .ref (md 2), .ref (md 3), .int (nI ni), .int (nI no), .ref (md 4), .ref (md 5), .ref (md 6), .int (nI ((asF (bnF nu am ni no mw v bd).1 (bnF nu am ni no mw v bd).2 (bnW v (ni + no)) (ni + no) (ch, wy, sd, 0)).2.2.2)), .ref (md 7), .ref (md 8), .int (nI ((bnF nu am ni no mw v bd).2)), .int (nI (bnW v (ni + no))), .ref (md 9), .long (tp), .long (bl), .long (wt), .long (wb)])), (md 4, aI g 48 nu), (md 5, aZ g 12 am), (md 7, aJ g 85 ((bnF nu am ni no mw v bd).1)), (md 9, aI g 5 (fun j => nI (((asF (bnF nu am ni no mw v bd).1 (bnF nu am ni no mw v bd).2 (bnW v (ni + no)) (ni + no) (ch, wy, sd, 0)).1) j))), (md 8, aJ g 5 ((asF (bnF nu am ni no mw v bd).1 (bnF nu am ni no mw v bd).2 (bnW v (ni + no)) (ni + no) (ch, wy, sd, 0)).2.1)), (md 6, aJ g 13000 ((asF (bnF nu am ni no mw v bd).1 (bnF nu am ni no mw v bd).2 (bnW v (ni + no)) (ni + no) (ch, wy, sd, 0)).2.2.1))] := hD.sub [0, 1, 2, 3, 4, 5, 6] rfl rfl
            have hmo : mOK nu am ni no mw v (asF (bnF nu am ni no mw v bd).1 (bnF nu am ni no mw v bd).2 (bnW v (ni + no)) (ni + no) (ch, wy, sd, 0)).2.2.2 (asF (bnF nu am ni no mw v bd).1 (bnF nu am ni no mw v bd).2 (bnW v (ni + no)) (ni + no) (ch, wy, sd, 0)).2.2.1 := ⟨bd, ch, wy, sd, rfl⟩
            have hn9 := mOK_le hni hno hmw hmo
            obtain ⟨N9, eN9⟩ : ∃ z, z = (asF (bnF nu am ni no mw v bd).1 (bnF nu am ni no mw v bd).2 (bnW v (ni + no)) (ni + no) (ch, wy, sd, 0)).2.2.2 := ⟨_, rfl⟩
            obtain ⟨S9, eS9⟩ : ∃ z, z = (asF (bnF nu am ni no mw v bd).1 (bnF nu am ni no mw v bd).2 (bnW v (ni + no)) (ni + no) (ch, wy, sd, 0)).2.2.1 := ⟨_, rfl⟩
            obtain ⟨W9, eW9⟩ : ∃ z, z = (asF (bnF nu am ni no mw v bd).1 (bnF nu am ni no mw v bd).2 (bnW v (ni + no)) (ni + no) (ch, wy, sd, 0)).2.1 := ⟨_, rfl⟩
            obtain ⟨C9, eC9⟩ : ∃ z, z = (asF (bnF nu am ni no mw v bd).1 (bnF nu am ni no mw v bd).2 (bnW v (ni + no)) (ni + no) (ch, wy, sd, 0)).1 := ⟨_, rfl⟩
            rw [← eN9, ← eS9] at hmo
            rw [← eN9] at hn9
            rw [← eN9, ← eS9, ← eW9, ← eC9] at hP hD
            clear eN9 eS9 eW9 eC9
            obtain ⟨B9, eB9⟩ : ∃ z, z = (bnF nu am ni no mw v bd).1 := ⟨_, rfl⟩
            obtain ⟨M9, eM9⟩ : ∃ z, z = (bnF nu am ni no mw v bd).2 := ⟨_, rfl⟩
            rw [← eB9, ← eM9] at hP hD
            clear eB9 eM9
            refine lv_aload_n hx hb dX4_shares_62 rfl (lv_at hl 0 rfl) ?_
            refine lv_lconst (v := 0) hx hb dX4_shares_63 (by decide) ?_
            refine k_put hx hb hts hown hK hP hD hS iw_X4_shares_X4 rfl tyX4 tyX4_ok nmX4 0 18 fm_X4_shares_121 (by decide) rfl rfl rfl rfl rfl (Nat.le_of_ble_eq_true rfl) dX4_shares_64 (fun H locs hP hD hS => ?_)
            have hP : va_P g.1 vwCl [(md 0, .inr (4, [.int (xt), .int (nI mi), .int (nI mo), .int (nI mw), .ref (md 1), .ref (md 2), .ref (md 3), .int (nI ni), .int (nI no), .ref (md 4), .ref (md 5), .ref (md 6), .int (nI N9), .ref (md 7), .ref (md 8), .int (nI M9), .int (nI (bnW v (ni + no))), .ref (md 9), .long (0), .long (bl), .long (wt), .long (wb)])), (md 4, aI g 48 nu), (md 5, aZ g 12 am), (md 7, aJ g 85 B9), (md 9, aI g 5 (fun j => nI ((C9) j))), (md 8, aJ g 5 W9), (md 6, aJ g 13000 S9)] H := hP
            have hD : va_D A [(md 0, .inr (4, [.int (xt), .int (nI mi), .int (nI mo), .int (nI mw), .ref (md 1), .ref (md 2), .ref (md 3), .int (nI ni), .int (nI no), .ref (md 4), .ref (md 5), .ref (md 6), .int (nI N9), .ref (md 7), .ref (md 8), .int (nI M9), .int (nI (bnW v (ni + no))), .ref (md 9), .long (0), .long (bl), .long (wt), .long (wb)])), (md 4, aI g 48 nu), (md 5, aZ g 12 am), (md 7, aJ g 85 B9), (md 9, aI g 5 (fun j => nI ((C9) j))), (md 8, aJ g 5 W9), (md 6, aJ g 13000 S9)] := hD
            refine lv_aload_n hx hb dX4_shares_67 rfl (lv_at hl 0 rfl) ?_
            refine lv_lconst (v := 1) hx hb dX4_shares_68 (by decide) ?_
            refine k_put hx hb hts hown hK hP hD hS iw_X4_shares_X4 rfl tyX4 tyX4_ok nmX4 0 19 fm_X4_shares_125 (by decide) rfl rfl rfl rfl rfl (Nat.le_of_ble_eq_true rfl) dX4_shares_69 (fun H locs hP hD hS => ?_)
            have hP : va_P g.1 vwCl [(md 0, .inr (4, [.int (xt), .int (nI mi), .int (nI mo), .int (nI mw), .ref (md 1), .ref (md 2), .ref (md 3), .int (nI ni), .int (nI no), .ref (md 4), .ref (md 5), .ref (md 6), .int (nI N9), .ref (md 7), .ref (md 8), .int (nI M9), .int (nI (bnW v (ni + no))), .ref (md 9), .long (0), .long (1), .long (wt), .long (wb)])), (md 4, aI g 48 nu), (md 5, aZ g 12 am), (md 7, aJ g 85 B9), (md 9, aI g 5 (fun j => nI ((C9) j))), (md 8, aJ g 5 W9), (md 6, aJ g 13000 S9)] H := hP
            have hD : va_D A [(md 0, .inr (4, [.int (xt), .int (nI mi), .int (nI mo), .int (nI mw), .ref (md 1), .ref (md 2), .ref (md 3), .int (nI ni), .int (nI no), .ref (md 4), .ref (md 5), .ref (md 6), .int (nI N9), .ref (md 7), .ref (md 8), .int (nI M9), .int (nI (bnW v (ni + no))), .ref (md 9), .long (0), .long (1), .long (wt), .long (wb)])), (md 4, aI g 48 nu), (md 5, aZ g 12 am), (md 7, aJ g 85 B9), (md 9, aI g 5 (fun j => nI ((C9) j))), (md 8, aJ g 5 W9), (md 6, aJ g 13000 S9)] := hD
            refine lv_iconst (v := nI 0) hx hb dX4_shares_72 (by decide) ?_
            refine lv_istore (lv' := [(4, .int (nI 0)), (0, .ref (md 0)), (1, .int (nI v)), (2, .int (nI w)), (3, .int (bI q))]) hx hb dX4_shares_73 hl (by decide) rfl (fun ls hl => ?_)
            have lp_75 : ∀ (n : Nat) (i : Nat) (a : Int64) (b : Int64), N9 - i < n → i ≤ N9 → shL S9 nu ni no w 0 N9 (0, 1) = shL S9 nu ni no w i (N9 - i) (a, b) → ∀ (H : Heap) (locs : List Loc), va_P g.1 vwCl [(md 0, .inr (4, [.int (xt), .int (nI mi), .int (nI mo), .int (nI mw), .ref (md 1), .ref (md 2), .ref (md 3), .int (nI ni), .int (nI no), .ref (md 4), .ref (md 5), .ref (md 6), .int (nI N9), .ref (md 7), .ref (md 8), .int (nI M9), .int (nI (bnW v (ni + no))), .ref (md 9), .long (a), .long (b), .long (wt), .long (wb)])), (md 4, aI g 48 nu), (md 5, aZ g 12 am), (md 7, aJ g 85 B9), (md 9, aI g 5 (fun j => nI (C9 j))), (md 8, aJ g 5 W9), (md 6, aJ g 13000 S9)] H → va_D A [(md 0, .inr (4, [.int (xt), .int (nI mi), .int (nI mo), .int (nI mw), .ref (md 1), .ref (md 2), .ref (md 3), .int (nI ni), .int (nI no), .ref (md 4), .ref (md 5), .ref (md 6), .int (nI N9), .ref (md 7), .ref (md 8), .int (nI M9), .int (nI (bnW v (ni + no))), .ref (md 9), .long (a), .long (b), .long (wt), .long (wb)])), (md 4, aI g 48 nu), (md 5, aZ g 12 am), (md 7, aJ g 85 B9), (md 9, aI g 5 (fun j => nI (C9 j))), (md 8, aJ g 5 W9), (md 6, aJ g 13000 S9)] → va_S A s.heap H locs → ∀ ls : Array Slot, lv_has ls 9 [(0, .ref (md 0)), (1, .int (nI v)), (2, .int (nI w)), (4, .int (nI i))] → W p l e { frames := 12, cells := 0, slots := 0, locals := 299 } s m args below meth c H locs 0 0 Q (F0 m 75 ls []) := by
              intro n
              induction n with
              | zero =>
                intro i a b hms
                omega
              | succ n ih_75 =>
                intro i a b hms_75 hi9 hs H locs hP hD hS ls hl
                refine lv_iload hx hb dX4_shares_75 (lv_at hl 3 rfl) ?_
                refine lv_aload_n hx hb dX4_shares_77 rfl (lv_at hl 0 rfl) ?_
                refine k_get hx hb hts hown hK hP iw_X4_shares_X4 rfl 0 12 fm_X4_shares_81 (by decide) rfl rfl dX4_shares_78 ?_
                refine lv_icmp_ge (tgt := 161) hx hb dX4_shares_81 (by decide) (fun c_7 => ?_) (fun c_7 => ?_)
                · skip
                  have c_7 := (nI_leI (by omega) (by omega)).mp c_7
                  have hfin : shL S9 nu ni no w 0 N9 (0, 1) = (true, a, b) := by rw [hs, show N9 - i = 0 by omega]; rfl
                  refine lv_iconst (v := nI 1) hx hb dX4_shares_161 (by decide) ?_
                  exact ret dX4_shares_162 ((N9, M9, bnW v (ni + no), B9, C9, W9, S9, a, b)) (Or.inr ⟨hq1, hmo, by rw [hfin]; rfl, by rw [hfin], by rw [hfin]⟩) (by decide) hP hD hS
                · skip
                  have c_7 := mt (nI_leI (by omega) (by omega)).mpr c_7
                  refine lv_aload_n hx hb dX4_shares_84 rfl (lv_at hl 0 rfl) ?_
                  refine lv_iload hx hb dX4_shares_85 (lv_at hl 3 rfl) ?_
                  refine lv_iload_n hx hb dX4_shares_87 rfl (lv_at hl 2 rfl) ?_
                  refine go_l (wc := [(md 0, .inr (4, [.int (xt), .int (nI mi), .int (nI mo), .int (nI mw), .ref (md 1), .ref (md 2), .ref (md 3), .int (nI ni), .int (nI no), .ref (md 4), .ref (md 5), .ref (md 6), .int (nI N9), .ref (md 7), .ref (md 8), .int (nI M9), .int (nI (bnW v (ni + no))), .ref (md 9), .long (a), .long (b), .long (wt), .long (wb)])), (md 4, aI g 48 nu), (md 6, aJ g 13000 S9)]) (wr := [(md 5, aZ g 12 am), (md 7, aJ g 85 B9), (md 9, aI g 5 (fun j => nI (C9 j))), (md 8, aJ g 5 W9)]) hP hD hS hA [0, 1, 6] [2, 3, 4, 5] rfl rfl rfl rfl (by decide) (fun hPc hDc => rn_V (As := [.int (nI i), .int (nI w)]) (rest := []) ⟨hx, hb, hml, hown, hts⟩ ((c_X4_inWeighed l g md xt mi mo mw ni no N9 M9 (bnW v (ni + no)) a b wt wb nu S9 i w (by omega) (by omega) (by omega)) _) (cw_X4_shares_128_0_0 hts hN ⟨Nat.le_of_ble_eq_true rfl, Nat.le_of_ble_eq_true rfl⟩) hK hN hPc hDc 0 rfl rfl rfl rfl hl.1 (Nat.le_of_ble_eq_true rfl) dX4_shares_88 ⟨Nat.le_of_ble_eq_true rfl, Nat.le_of_ble_eq_true rfl⟩) ?_
                  intro r_8 u_9 H locs h_10 hP hD hS
                  have hP : va_P g.1 vwCl [(md 0, .inr (4, [.int (xt), .int (nI mi), .int (nI mo), .int (nI mw), .ref (md 1), .ref (md 2), .ref (md 3), .int (nI ni), .int (nI no), .ref (md 4), .ref (md 5), .ref (md 6), .int (nI N9), .ref (md 7), .ref (md 8), .int (nI M9), .int (nI (bnW v (ni + no))), .ref (md 9), .long (a), .long (b), .long (wt), .long (wb)])), (md 4, aI g 48 nu), (md 5, aZ g 12 am), (md 7, aJ g 85 B9), (md 9, aI g 5 (fun j => nI (C9 j))), (md 8, aJ g 5 W9), (md 6, aJ g 13000 S9)] H := hP.sub [4, 5, 0, 1, 2, 3, 6] rfl
                  have hD : va_D A [(md 0, .inr (4, [.int (xt), .int (nI mi), .int (nI mo), .int (nI mw), .ref (md 1), .ref (md 2), .ref (md 3), .int (nI ni), .int (nI no), .ref (md 4), .ref (md 5), .ref (md 6), .int (nI N9), .ref (md 7), .ref (md 8), .int (nI M9), .int (nI (bnW v (ni + no))), .ref (md 9), .long (a), .long (b), .long (wt), .long (wb)])), (md 4, aI g 48 nu), (md 5, aZ g 12 am), (md 7, aJ g 85 B9), (md 9, aI g 5 (fun j => nI (C9 j))), (md 8, aJ g 5 W9), (md 6, aJ g 13000 S9)] := hD.sub [4, 5, 0, 1, 2, 3, 6] rfl rfl
                  have h_10 : r_8 = insW S9 nu i w ni := h_10
                  subst h_10
                  refine lv_lstore (lv' := [(5, .long (insW S9 nu i w ni)), (0, .ref (md 0)), (1, .int (nI v)), (2, .int (nI w)), (4, .int (nI i))]) hx hb dX4_shares_91 hl (by decide) rfl (fun ls hl => ?_)
                  refine lv_aload_n hx hb dX4_shares_93 rfl (lv_at hl 1 rfl) ?_
                  refine lv_iload hx hb dX4_shares_94 (lv_at hl 4 rfl) ?_
                  refine lv_iload_n hx hb dX4_shares_96 rfl (lv_at hl 3 rfl) ?_
                  refine go_l (wc := [(md 0, .inr (4, [.int (xt), .int (nI mi), .int (nI mo), .int (nI mw), .ref (md 1), .ref (md 2), .ref (md 3), .int (nI ni), .int (nI no), .ref (md 4), .ref (md 5), .ref (md 6), .int (nI N9), .ref (md 7), .ref (md 8), .int (nI M9), .int (nI (bnW v (ni + no))), .ref (md 9), .long (a), .long (b), .long (wt), .long (wb)])), (md 4, aI g 48 nu), (md 6, aJ g 13000 S9)]) (wr := [(md 5, aZ g 12 am), (md 7, aJ g 85 B9), (md 9, aI g 5 (fun j => nI (C9 j))), (md 8, aJ g 5 W9)]) hP hD hS hA [0, 1, 6] [2, 3, 4, 5] rfl rfl rfl rfl (by decide) (fun hPc hDc => rn_V (As := [.int (nI i), .int (nI w)]) (rest := []) ⟨hx, hb, hml, hown, hts⟩ ((c_X4_outWeighed l g md xt mi mo mw ni no N9 M9 (bnW v (ni + no)) a b wt wb nu S9 i w (by omega) (by omega) (by omega) (by omega)) _) (cw_X4_shares_131_0_0 hts hN ⟨Nat.le_of_ble_eq_true rfl, Nat.le_of_ble_eq_true rfl⟩) hK hN hPc hDc 0 rfl rfl rfl rfl hl.1 (Nat.le_of_ble_eq_true rfl) dX4_shares_97 ⟨Nat.le_of_ble_eq_true rfl, Nat.le_of_ble_eq_true rfl⟩) ?_
                  intro r_11 u_12 H locs h_13 hP hD hS
                  have hP : va_P g.1 vwCl [(md 0, .inr (4, [.int (xt), .int (nI mi), .int (nI mo), .int (nI mw), .ref (md 1), .ref (md 2), .ref (md 3), .int (nI ni), .int (nI no), .ref (md 4), .ref (md 5), .ref (md 6), .int (nI N9), .ref (md 7), .ref (md 8), .int (nI M9), .int (nI (bnW v (ni + no))), .ref (md 9), .long (a), .long (b), .long (wt), .long (wb)])), (md 4, aI g 48 nu), (md 5, aZ g 12 am), (md 7, aJ g 85 B9), (md 9, aI g 5 (fun j => nI (C9 j))), (md 8, aJ g 5 W9), (md 6, aJ g 13000 S9)] H := hP.sub [4, 5, 0, 1, 2, 3, 6] rfl
                  have hD : va_D A [(md 0, .inr (4, [.int (xt), .int (nI mi), .int (nI mo), .int (nI mw), .ref (md 1), .ref (md 2), .ref (md 3), .int (nI ni), .int (nI no), .ref (md 4), .ref (md 5), .ref (md 6), .int (nI N9), .ref (md 7), .ref (md 8), .int (nI M9), .int (nI (bnW v (ni + no))), .ref (md 9), .long (a), .long (b), .long (wt), .long (wb)])), (md 4, aI g 48 nu), (md 5, aZ g 12 am), (md 7, aJ g 85 B9), (md 9, aI g 5 (fun j => nI (C9 j))), (md 8, aJ g 5 W9), (md 6, aJ g 13000 S9)] := hD.sub [4, 5, 0, 1, 2, 3, 6] rfl rfl
                  have h_13 : r_11 = outsW S9 nu i w 4 ni no := h_13
                  subst h_13
                  refine lv_lstore (lv' := [(7, .long (outsW S9 nu i w 4 ni no)), (5, .long (insW S9 nu i w ni)), (0, .ref (md 0)), (1, .int (nI v)), (2, .int (nI w)), (4, .int (nI i))]) hx hb dX4_shares_100 hl (by decide) rfl (fun ls hl => ?_)
                  have lp_118 : ¬ (insW S9 nu i w ni = 0 ∧ 0 < outsW S9 nu i w 4 ni no) → ∀ (H : Heap) (locs : List Loc), va_P g.1 vwCl [(md 0, .inr (4, [.int (xt), .int (nI mi), .int (nI mo), .int (nI mw), .ref (md 1), .ref (md 2), .ref (md 3), .int (nI ni), .int (nI no), .ref (md 4), .ref (md 5), .ref (md 6), .int (nI N9), .ref (md 7), .ref (md 8), .int (nI M9), .int (nI (bnW v (ni + no))), .ref (md 9), .long (a), .long (b), .long (wt), .long (wb)])), (md 4, aI g 48 nu), (md 5, aZ g 12 am), (md 7, aJ g 85 B9), (md 9, aI g 5 (fun j => nI (C9 j))), (md 8, aJ g 5 W9), (md 6, aJ g 13000 S9)] H → va_D A [(md 0, .inr (4, [.int (xt), .int (nI mi), .int (nI mo), .int (nI mw), .ref (md 1), .ref (md 2), .ref (md 3), .int (nI ni), .int (nI no), .ref (md 4), .ref (md 5), .ref (md 6), .int (nI N9), .ref (md 7), .ref (md 8), .int (nI M9), .int (nI (bnW v (ni + no))), .ref (md 9), .long (a), .long (b), .long (wt), .long (wb)])), (md 4, aI g 48 nu), (md 5, aZ g 12 am), (md 7, aJ g 85 B9), (md 9, aI g 5 (fun j => nI (C9 j))), (md 8, aJ g 5 W9), (md 6, aJ g 13000 S9)] → va_S A s.heap H locs → ∀ ls : Array Slot, lv_has ls 9 [(0, .ref (md 0)), (1, .int (nI v)), (2, .int (nI w)), (4, .int (nI i)), (5, .long (insW S9 nu i w ni)), (7, .long (outsW S9 nu i w 4 ni no))] → W p l e { frames := 12, cells := 0, slots := 0, locals := 299 } s m args below meth c H locs 0 0 Q (F0 m 118 ls []) := by
                    intro  hng H locs hP hD hS ls hl
                    refine lv_lload hx hb dX4_shares_118 (lv_at hl 4 rfl) ?_
                    refine lv_lconst (v := 0) hx hb dX4_shares_120 (by decide) ?_
                    refine W.lcmp hx hb dX4_shares_121 ?_
                    refine lv_if_le (tgt := 155) hx hb dX4_shares_122 (by decide) (fun c_14 => ?_) (fun c_14 => ?_)
                    · skip
                      have c_14 := (lc_le _ _).mp c_14
                      have hs2 : shL S9 nu ni no w 0 N9 (0, 1) = shL S9 nu ni no w (i + 1) (N9 - (i + 1)) (a, b) := by rw [hs, show N9 - i = (N9 - (i + 1)) + 1 by omega, shL, if_neg hng, shS, if_neg (fun q => by have q := q.1; rw [i64_lt] at q; rw [i64_le] at c_14; omega)]
                      refine lv_iinc (v := nI (i + 1)) (lv' := [(4, .int (nI (i + 1))), (0, .ref (md 0)), (1, .int (nI v)), (2, .int (nI w)), (5, .long (insW S9 nu i w ni)), (7, .long (outsW S9 nu i w 4 ni no))]) hx hb dX4_shares_155 hl (k := 3) rfl (nI_inc1 i) (by decide) rfl (fun ls hl => ?_)
                      refine lv_goto (tgt := 75) hx hb dX4_shares_158 (by decide) ?_
                      exact ih_75 (i + 1) a b (by omega) (by omega) hs2 _ _ hP hD hS ls (lv_sub hl [1, 2, 3, 0] rfl)
                    · skip
                      have c_14 := mt (lc_le _ _).mpr c_14
                      have hip : 0 < insW S9 nu i w ni := by rw [i64_lt]; rw [i64_le] at c_14; omega
                      refine lv_lload hx hb dX4_shares_125 (lv_at hl 5 rfl) ?_
                      refine lv_aload_n hx hb dX4_shares_127 rfl (lv_at hl 0 rfl) ?_
                      refine k_get hx hb hts hown hK hP iw_X4_shares_X4 rfl 0 19 fm_X4_shares_125 (by decide) rfl rfl dX4_shares_128 ?_
                      refine lv_lmul hx hb dX4_shares_131 ?_
                      refine lv_aload_n hx hb dX4_shares_132 rfl (lv_at hl 0 rfl) ?_
                      refine k_get hx hb hts hown hK hP iw_X4_shares_X4 rfl 0 18 fm_X4_shares_121 (by decide) rfl rfl dX4_shares_133 ?_
                      refine lv_lload hx hb dX4_shares_136 (lv_at hl 4 rfl) ?_
                      refine lv_lmul hx hb dX4_shares_138 ?_
                      refine W.lcmp hx hb dX4_shares_139 ?_
                      refine lv_if_le (tgt := 155) hx hb dX4_shares_140 (by decide) (fun c_15 => ?_) (fun c_15 => ?_)
                      · skip
                        have c_15 := (lc_le _ _).mp c_15
                        have hs2 : shL S9 nu ni no w 0 N9 (0, 1) = shL S9 nu ni no w (i + 1) (N9 - (i + 1)) (a, b) := by rw [hs, show N9 - i = (N9 - (i + 1)) + 1 by omega, shL, if_neg hng, shS, if_neg (fun q => by have q : a * insW S9 nu i w ni < outsW S9 nu i w 4 ni no * b := q.2; rw [i64_lt] at q; rw [i64_le] at c_15; omega)]
                        refine lv_iinc (v := nI (i + 1)) (lv' := [(4, .int (nI (i + 1))), (0, .ref (md 0)), (1, .int (nI v)), (2, .int (nI w)), (5, .long (insW S9 nu i w ni)), (7, .long (outsW S9 nu i w 4 ni no))]) hx hb dX4_shares_155 hl (k := 3) rfl (nI_inc1 i) (by decide) rfl (fun ls hl => ?_)
                        refine lv_goto (tgt := 75) hx hb dX4_shares_158 (by decide) ?_
                        exact ih_75 (i + 1) a b (by omega) (by omega) hs2 _ _ hP hD hS ls (lv_sub hl [1, 2, 3, 0] rfl)
                      · skip
                        have c_15 := mt (lc_le _ _).mpr c_15
                        have hs2 : shL S9 nu ni no w 0 N9 (0, 1) = shL S9 nu ni no w (i + 1) (N9 - (i + 1)) (outsW S9 nu i w 4 ni no, insW S9 nu i w ni) := by rw [hs, show N9 - i = (N9 - (i + 1)) + 1 by omega, shL, if_neg hng, shS, if_pos ⟨hip, show a * insW S9 nu i w ni < outsW S9 nu i w 4 ni no * b by rw [i64_lt]; rw [i64_le] at c_15; omega⟩]
                        refine lv_aload_n hx hb dX4_shares_143 rfl (lv_at hl 0 rfl) ?_
                        refine lv_lload hx hb dX4_shares_144 (lv_at hl 5 rfl) ?_
                        refine k_put hx hb hts hown hK hP hD hS iw_X4_shares_X4 rfl tyX4 tyX4_ok nmX4 0 18 fm_X4_shares_121 (by decide) rfl rfl rfl rfl rfl (Nat.le_of_ble_eq_true rfl) dX4_shares_146 (fun H locs hP hD hS => ?_)
                        have hP : va_P g.1 vwCl [(md 0, .inr (4, [.int (xt), .int (nI mi), .int (nI mo), .int (nI mw), .ref (md 1), .ref (md 2), .ref (md 3), .int (nI ni), .int (nI no), .ref (md 4), .ref (md 5), .ref (md 6), .int (nI N9), .ref (md 7), .ref (md 8), .int (nI M9), .int (nI (bnW v (ni + no))), .ref (md 9), .long (outsW S9 nu i w 4 ni no), .long (b), .long (wt), .long (wb)])), (md 4, aI g 48 nu), (md 5, aZ g 12 am), (md 7, aJ g 85 B9), (md 9, aI g 5 (fun j => nI (C9 j))), (md 8, aJ g 5 W9), (md 6, aJ g 13000 S9)] H := hP
                        have hD : va_D A [(md 0, .inr (4, [.int (xt), .int (nI mi), .int (nI mo), .int (nI mw), .ref (md 1), .ref (md 2), .ref (md 3), .int (nI ni), .int (nI no), .ref (md 4), .ref (md 5), .ref (md 6), .int (nI N9), .ref (md 7), .ref (md 8), .int (nI M9), .int (nI (bnW v (ni + no))), .ref (md 9), .long (outsW S9 nu i w 4 ni no), .long (b), .long (wt), .long (wb)])), (md 4, aI g 48 nu), (md 5, aZ g 12 am), (md 7, aJ g 85 B9), (md 9, aI g 5 (fun j => nI (C9 j))), (md 8, aJ g 5 W9), (md 6, aJ g 13000 S9)] := hD
                        refine lv_aload_n hx hb dX4_shares_149 rfl (lv_at hl 0 rfl) ?_
                        refine lv_lload hx hb dX4_shares_150 (lv_at hl 4 rfl) ?_
                        refine k_put hx hb hts hown hK hP hD hS iw_X4_shares_X4 rfl tyX4 tyX4_ok nmX4 0 19 fm_X4_shares_125 (by decide) rfl rfl rfl rfl rfl (Nat.le_of_ble_eq_true rfl) dX4_shares_152 (fun H locs hP hD hS => ?_)
                        have hP : va_P g.1 vwCl [(md 0, .inr (4, [.int (xt), .int (nI mi), .int (nI mo), .int (nI mw), .ref (md 1), .ref (md 2), .ref (md 3), .int (nI ni), .int (nI no), .ref (md 4), .ref (md 5), .ref (md 6), .int (nI N9), .ref (md 7), .ref (md 8), .int (nI M9), .int (nI (bnW v (ni + no))), .ref (md 9), .long (outsW S9 nu i w 4 ni no), .long (insW S9 nu i w ni), .long (wt), .long (wb)])), (md 4, aI g 48 nu), (md 5, aZ g 12 am), (md 7, aJ g 85 B9), (md 9, aI g 5 (fun j => nI (C9 j))), (md 8, aJ g 5 W9), (md 6, aJ g 13000 S9)] H := hP
                        have hD : va_D A [(md 0, .inr (4, [.int (xt), .int (nI mi), .int (nI mo), .int (nI mw), .ref (md 1), .ref (md 2), .ref (md 3), .int (nI ni), .int (nI no), .ref (md 4), .ref (md 5), .ref (md 6), .int (nI N9), .ref (md 7), .ref (md 8), .int (nI M9), .int (nI (bnW v (ni + no))), .ref (md 9), .long (outsW S9 nu i w 4 ni no), .long (insW S9 nu i w ni), .long (wt), .long (wb)])), (md 4, aI g 48 nu), (md 5, aZ g 12 am), (md 7, aJ g 85 B9), (md 9, aI g 5 (fun j => nI (C9 j))), (md 8, aJ g 5 W9), (md 6, aJ g 13000 S9)] := hD
                        refine lv_iinc (v := nI (i + 1)) (lv' := [(4, .int (nI (i + 1))), (0, .ref (md 0)), (1, .int (nI v)), (2, .int (nI w)), (5, .long (insW S9 nu i w ni)), (7, .long (outsW S9 nu i w 4 ni no))]) hx hb dX4_shares_155 hl (k := 3) rfl (nI_inc1 i) (by decide) rfl (fun ls hl => ?_)
                        refine lv_goto (tgt := 75) hx hb dX4_shares_158 (by decide) ?_
                        exact ih_75 (i + 1) (outsW S9 nu i w 4 ni no) (insW S9 nu i w ni) (by omega) (by omega) hs2 _ _ hP hD hS ls (lv_sub hl [1, 2, 3, 0] rfl)
                  refine lv_lload hx hb dX4_shares_102 (lv_at hl 1 rfl) ?_
                  refine lv_lconst (v := 0) hx hb dX4_shares_104 (by decide) ?_
                  refine W.lcmp hx hb dX4_shares_105 ?_
                  refine lv_if_ne (tgt := 118) hx hb dX4_shares_106 (by decide) (fun c_16 => ?_) (fun c_16 => ?_)
                  · skip
                    have c_16 := mt (lc_eq _ _).mpr c_16
                    have hng : ¬ (insW S9 nu i w ni = 0 ∧ 0 < outsW S9 nu i w 4 ni no) := fun q => c_16 q.1
                    exact lp_118  hng _ _ hP hD hS ls (lv_sub hl [2, 3, 4, 5, 1, 0] rfl)
                  · skip
                    have c_16 := (lc_eq _ _).mp c_16
                    have hi0 := c_16
                    refine lv_lload hx hb dX4_shares_109 (lv_at hl 0 rfl) ?_
                    refine lv_lconst (v := 0) hx hb dX4_shares_111 (by decide) ?_
                    refine W.lcmp hx hb dX4_shares_112 ?_
                    refine lv_if_le (tgt := 118) hx hb dX4_shares_113 (by decide) (fun c_17 => ?_) (fun c_17 => ?_)
                    · skip
                      have c_17 := (lc_le _ _).mp c_17
                      have hng : ¬ (insW S9 nu i w ni = 0 ∧ 0 < outsW S9 nu i w 4 ni no) := fun q => by have q := q.2; rw [i64_lt] at q; rw [i64_le] at c_17; omega
                      exact lp_118  hng _ _ hP hD hS ls (lv_sub hl [2, 3, 4, 5, 1, 0] rfl)
                    · skip
                      have c_17 := mt (lc_le _ _).mpr c_17
                      have hfin : shL S9 nu ni no w 0 N9 (0, 1) = (false, a, b) := by rw [hs, show N9 - i = (N9 - (i + 1)) + 1 by omega, shL, if_pos ⟨hi0, by rw [i64_lt]; rw [i64_le] at c_17; omega⟩]
                      refine lv_iconst (v := nI 0) hx hb dX4_shares_116 (by decide) ?_
                      exact ret dX4_shares_117 ((N9, M9, bnW v (ni + no), B9, C9, W9, S9, a, b)) (Or.inr ⟨hq1, hmo, by rw [hfin]; rfl, by rw [hfin], by rw [hfin]⟩) (by decide) hP hD hS
            exact lp_75 (N9 - 0 + 1) 0 0 1 (by omega) (by omega) rfl _ _ hP hD hS ls (lv_sub hl [1, 2, 3, 0] rfl)
          · skip
            have c_3 := (nI_eq (by omega) (by omega)).mp c_3
            omega
        · skip
          have hq0 : anB am 0 mw false = false := by rw [hany]; exact bI_eq0.mp c_2
          refine lv_iconst (v := nI 0) hx hb dX4_shares_44 (by decide) ?_
          exact ret dX4_shares_45 ((ns, nb, wd, bd, ch, wy, sd, tp, bl)) (Or.inl ⟨hq0, rfl, rfl, rfl⟩) (by decide) hP hD hS
      · skip
        have c_1 := mt (nI_leI (by omega) (by omega)).mpr c_1
        refine lv_iload_n hx hb dX4_shares_14 rfl (lv_at hl 3 rfl) ?_
        have lp_33 : ∀ (qq : Bool), anB am 0 mw false = anB am (k + 1) (mw - (k + 1)) qq → ∀ (H : Heap) (locs : List Loc), va_P g.1 vwCl [(md 0, .inr (4, [.int (xt), .int (nI mi), .int (nI mo), .int (nI mw), .ref (md 1), .ref (md 2), .ref (md 3), .int (nI ni), .int (nI no), .ref (md 4), .ref (md 5), .ref (md 6), .int (nI ns), .ref (md 7), .ref (md 8), .int (nI nb), .int (nI wd), .ref (md 9), .long (tp), .long (bl), .long (wt), .long (wb)])), (md 4, aI g 48 nu), (md 5, aZ g 12 am), (md 7, aJ g 85 bd), (md 9, aI g 5 (fun j => nI (ch j))), (md 8, aJ g 5 wy), (md 6, aJ g 13000 sd)] H → va_D A [(md 0, .inr (4, [.int (xt), .int (nI mi), .int (nI mo), .int (nI mw), .ref (md 1), .ref (md 2), .ref (md 3), .int (nI ni), .int (nI no), .ref (md 4), .ref (md 5), .ref (md 6), .int (nI ns), .ref (md 7), .ref (md 8), .int (nI nb), .int (nI wd), .ref (md 9), .long (tp), .long (bl), .long (wt), .long (wb)])), (md 4, aI g 48 nu), (md 5, aZ g 12 am), (md 7, aJ g 85 bd), (md 9, aI g 5 (fun j => nI (ch j))), (md 8, aJ g 5 wy), (md 6, aJ g 13000 sd)] → va_S A s.heap H locs → ∀ ls : Array Slot, lv_has ls 9 [(0, .ref (md 0)), (1, .int (nI v)), (2, .int (nI w)), (4, .int (nI k))] → W p l e { frames := 12, cells := 0, slots := 0, locals := 299 } s m args below meth c H locs 0 0 Q (F0 m 33 ls [.int (bI qq)]) := by
          intro qq hvq H locs hP hD hS ls hl
          refine lv_istore_n (lv' := [(3, .int (bI qq)), (0, .ref (md 0)), (1, .int (nI v)), (2, .int (nI w)), (4, .int (nI k))]) hx hb dX4_shares_33 rfl hl (by decide) rfl (fun ls hl => ?_)
          refine lv_iinc (v := nI (k + 1)) (lv' := [(4, .int (nI (k + 1))), (3, .int (bI qq)), (0, .ref (md 0)), (1, .int (nI v)), (2, .int (nI w))]) hx hb dX4_shares_34 hl (k := 4) rfl (nI_inc1 k) (by decide) rfl (fun ls hl => ?_)
          refine lv_goto (tgt := 5) hx hb dX4_shares_37 (by decide) ?_
          exact ih_5 (k + 1) qq (by omega) (by omega) hvq _ _ hP hD hS ls (lv_sub hl [2, 3, 4, 1, 0] rfl)
        refine lv_if_ne (tgt := 28) hx hb dX4_shares_15 (by decide) (fun c_18 => ?_) (fun c_18 => ?_)
        · skip
          have hq := bI_ne0.mp c_18
          have hvr : anB am 0 mw false = anB am (k + 1) (mw - (k + 1)) true := by rw [hv, show mw - k = (mw - (k + 1)) + 1 by omega, anB, hq]; rfl
          refine lv_iconst (v := nI 1) hx hb dX4_shares_28 (by decide) ?_
          refine k_ei (y := bI true) (rfl) ?_
          refine lv_goto (tgt := 33) hx hb dX4_shares_29 (by decide) ?_
          exact lp_33 true hvr _ _ hP hD hS ls (lv_sub hl [0, 1, 2, 4] rfl)
        · skip
          have hq := bI_eq0.mp c_18
          refine lv_aload_n hx hb dX4_shares_18 rfl (lv_at hl 0 rfl) ?_
          refine k_get hx hb hts hown hK hP iw_X4_shares_X4 rfl 0 10 fm_X4_shares_30 (by decide) rfl rfl dX4_shares_19 ?_
          refine lv_iload hx hb dX4_shares_22 (lv_at hl 4 rfl) ?_
          refine k_zald hx hb hK hP 2 rfl (by omega) (by omega) dX4_shares_24 ?_
          refine lv_if_eq (tgt := 32) hx hb dX4_shares_25 (by decide) (fun c_19 => ?_) (fun c_19 => ?_)
          · skip
            have hvr : anB am 0 mw false = anB am (k + 1) (mw - (k + 1)) false := by rw [hv, show mw - k = (mw - (k + 1)) + 1 by omega, anB, hq, decide_eq_true c_19]; rfl
            refine lv_iconst (v := nI 0) hx hb dX4_shares_32 (by decide) ?_
            refine k_ei (y := bI false) (rfl) ?_
            exact lp_33 false hvr _ _ hP hD hS ls (lv_sub hl [0, 1, 2, 4] rfl)
          · skip
            have hvr : anB am 0 mw false = anB am (k + 1) (mw - (k + 1)) true := by rw [hv, show mw - k = (mw - (k + 1)) + 1 by omega, anB, hq, decide_eq_false c_19]; rfl
            refine lv_iconst (v := nI 1) hx hb dX4_shares_28 (by decide) ?_
            refine k_ei (y := bI true) (rfl) ?_
            refine lv_goto (tgt := 33) hx hb dX4_shares_29 (by decide) ?_
            exact lp_33 true hvr _ _ hP hD hS ls (lv_sub hl [0, 1, 2, 4] rfl)
  exact lp_5 (mw - 0 + 1) 0 false (by omega) (by omega) rfl _ _ hP hD hS ls (lv_sub hl [2, 3, 4, 1, 0] rfl)
