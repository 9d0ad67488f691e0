theorem cmL_le (t : Nat) (sl : Nat → Int64) (bd : Int32) (old : Nat) : ∀ (n r : Nat) (st : CS), (cmL t sl bd old r n st).1 ≤ st.1 + n
  | 0, _, st => Nat.le_refl _
  | n + 1, r, st => by
    rw [cmL]
    have h := cmL_le t sl bd old n (r + 1) (cmS t sl bd old r st)
    have h2 : (cmS t sl bd old r st).1 ≤ st.1 + 1 := by
      unfold cmS
      split
      · omega
      · exact Nat.le_refl _
    omega
theorem ctI_le (t kf : Nat) (sl : Nat → Int64) (bd : Int32) (old v : Nat) : ∀ (n i : Nat) (st : CS), st.1 ≤ 144 → (ctI t kf sl bd old v i n st).1 ≤ 144
  | 0, _, _, h => h
  | n + 1, i, st, h => by
    rw [ctI]
    refine ctI_le t kf sl bd old v n (i + 1) _ ?_
    split
    · exact (jnS_le h).1
    · exact h
theorem ctO_le (t kf : Nat) (sl : Nat → Int64) (bd : Int32) (old : Nat) : ∀ (n v : Nat) (st : CS), st.1 ≤ 144 → (ctO t kf sl bd old v n st).1 ≤ 144
  | 0, _, _, h => h
  | n + 1, v, st, h => by
    rw [ctO]
    refine ctO_le t kf sl bd old n (v + 1) _ ?_
    split
    · exact ctI_le t kf sl bd old v old 0 st h
    · exact h
theorem cutF_le (nu : Nat → Int32) (w ki kt kf : Nat) (sl : Nat → Int64) (st : CS) (h : st.1 ≤ 144) : (cutF nu w ki kt kf sl st).1 ≤ 144 := by
  unfold cutF
  have h1 := ctO_le kt kf sl (bdW w) st.1 st.1 0 st h
  have h2 := cmL_le kt sl (bdW w) st.1 (ctO kt kf sl (bdW w) st.1 0 st.1 st).1 0 (0, (ctO kt kf sl (bdW w) st.1 0 st.1 st).2)
  have h3 : ((0, (ctO kt kf sl (bdW w) st.1 0 st.1 st).2) : CS).1 = 0 := rfl
  omega
theorem bgL_n (nu : Nat → Int32) (fo : Option Nat) (ki kt : Nat) (lb : Int32) : ∀ (n i : Nat) (st : CS), (bgL nu fo ki kt lb i n st).1 = st.1 + n
  | 0, _, _ => rfl
  | n + 1, i, st => by
    rw [bgL, bgL_n nu fo ki kt lb n (i + 1)]
    show st.1 + 1 + n = st.1 + (n + 1)
    omega
theorem bgF_le (nu pt : Nat → Int32) (v ki kt : Nat) (st : CS) : (bgF nu pt v ki kt st).1 ≤ kt + 1 := by
  simp only [bgF]
  have h := bgL_n nu (if v = 2 then fstP pt 0 12 else none) ki kt (if v = 1 then nI 1 <<< (nI kt &&& 31) else nI 0) kt 0 (0, st.2)
  have h0 : ((0, st.2) : CS).1 = 0 := rfl
  split
  · omega
  · show _ + 1 ≤ kt + 1
    omega
theorem bdK_le {v kt : Nat} (h : kt ≤ 4) : bdK v kt ≤ 8 := by
  unfold bdK
  split <;> omega
/-- build: many, the rays in order, their bounds -/
def bdS (nu pt : Nat → Int32) (v ki kt : Nat) (ray : Nat → Int64) (tg : Nat → Int32) (sl : Nat → Int64) (km : Nat) : CS :=
  ((bdQ nu pt v ki kt ray tg sl km).1.1, srO kt 1 ((bdQ nu pt v ki kt ray tg sl km).1.1 - 1) (bdQ nu pt v ki kt ray tg sl km).1.2)
theorem bdL_le (nu pt : Nat → Int32) (ki kt kf : Nat) : ∀ (n w : Nat) (q : CS × (Nat → Int64)), q.1.1 ≤ 144 → (bdL nu pt ki kt kf w n q).1.1 ≤ 144
  | 0, _, _, h => h
  | n + 1, w, q, h => by
    rw [bdL]
    refine bdL_le nu pt ki kt kf n (w + 1) _ ?_
    split
    · exact h
    · exact cutF_le nu w ki kt kf (pL q.2 0 (slk q.1.2.1 nu w ki kt) q.1.1) q.1 h
theorem bdS_le (nu pt : Nat → Int32) (v ki kt : Nat) (hk : kt ≤ 4) (ray : Nat → Int64) (tg : Nat → Int32) (sl : Nat → Int64) (km : Nat) : (bdS nu pt v ki kt ray tg sl km).1 ≤ 144 := bdL_le nu pt ki kt _ 12 0 _ (Nat.le_trans (bgF_le nu pt v ki kt (km, ray, tg)) (by omega))
theorem iw_X0_begin_X0 : ∀ w ∈ wsX00, w ∈ wsX0_begin := by decide +kernel
theorem fm_X0_begin_32 : Cond.fieldLink RX0 32 "EdgeBench$Cone" "things" "I" ∈ wsX0_begin := by decide +kernel
theorem fm_X0_begin_56 : Cond.fieldLink RX0 56 "EdgeBench$Cone" "many" "I" ∈ wsX0_begin := by decide +kernel
theorem fm_X0_begin_11 : Cond.fieldLink RX0 11 "EdgeBench$Cone" "ray" "[J" ∈ wsX0_begin := by decide +kernel
theorem fm_X0_begin_28 : Cond.fieldLink RX0 28 "EdgeBench$Cone" "ins" "I" ∈ wsX0_begin := by decide +kernel
set_option maxHeartbeats 4000000 in
set_option maxRecDepth 100000 in
theorem c_X0_begin (l : Launch) (g : Gt) (h0 : Nat) (h5 : Nat) (h6 : Nat) (h7 : Nat) (ki : Nat) (kt : Nat) (kf : Nat) (km : Nat) (fr : Int32) (ray : Nat → Int64) (tg : Nat → Int32) (sl : Nat → Int64) (r0 : Nat) (rn : Nat) (rp : Nat) (ri : Nat) (ro : Nat) (nu : Nat → Int32) (pt : Nat → Int32) (v : Nat) (hv2 : v ≤ 2) (hi : ki ≤ 2) (ht : kt ≤ 4) : CV l yX0_begin wsX0_begin { frames := 1, cells := 0, slots := 0, locals := 24 } g [.ref (h0), .ref (r0), .int (nI v)] [(h0, .inr (0, [.int (nI ki), .int (nI kt), .int (nI kf), .int (nI km), .int (fr), .ref (h5), .ref (h6), .ref (h7)])), (h5, aJ g 720 ray), (h6, aI g 144 tg), (h7, aJ g 144 sl), (r0, .inr (2, [.int (nI ri), .int (nI ro), .ref (rn), .ref (rp)])), (rn, aI g 48 nu), (rp, aZ g 12 pt)] (fun (zu : Unit) => True) (fun (zu : Unit) => [(h0, .inr (0, [.int (nI ki), .int (nI kt), .int (nI kf), .int (nI ((bgF nu pt v ki kt (km, ray, tg)).1)), .int (fr), .ref (h5), .ref (h6), .ref (h7)])), (h5, aJ g 720 ((bgF nu pt v ki kt (km, ray, tg)).2.1)), (h6, aI g 144 ((bgF nu pt v ki kt (km, ray, tg)).2.2)), (h7, aJ g 144 sl), (r0, .inr (2, [.int (nI ri), .int (nI ro), .ref (rn), .ref (rp)])), (rn, aI g 48 nu), (rp, aZ g 12 pt)]) 0 0 := by
  refine ent_v (cc := cX0_begin) (maxL := 8) (by decide) rfl (Nat.le_of_ble_eq_true rfl) ?_
  intro p e s m below meth c A args Q hE ret ls hl
  obtain ⟨hx, hb, hml, hown, hts, hnm, hA, hP, hD, hK, hN⟩ := hE
  have hS : va_S A s.heap s.heap [] := va_S.rf
  have hl : lv_has ls 8 [(0, .ref (h0)), (1, .ref (r0)), (2, .int (nI v))] := hl
  have hP : va_P g.1 vwCl [(h0, .inr (0, [.int (nI ki), .int (nI kt), .int (nI kf), .int (nI km), .int (fr), .ref (h5), .ref (h6), .ref (h7)])), (h5, aJ g 720 ray), (h6, aI g 144 tg), (h7, aJ g 144 sl), (r0, .inr (2, [.int (nI ri), .int (nI ro), .ref (rn), .ref (rp)])), (rn, aI g 48 nu), (rp, aZ g 12 pt)] s.heap := hP
  refine lv_iconst (v := nI 1) hx hb dX0_begin_0 (by decide) ?_
  refine lv_aload_n hx hb dX0_begin_1 rfl (lv_at hl 0 rfl) ?_
  refine k_get hx hb hts hown hK hP iw_X0_begin_X0 rfl 0 1 fm_X0_begin_32 (by decide) rfl rfl dX0_begin_2 ?_
  refine lv_ishl hx hb dX0_begin_5 ?_
  refine lv_iconst (v := nI 1) hx hb dX0_begin_6 (by decide) ?_
  refine lv_isub hx hb dX0_begin_7 ?_
  refine k_ei (y := axM kt) (rfl) ?_
  refine lv_istore_n (lv' := [(3, .int (axM kt)), (0, .ref (h0)), (1, .ref (r0)), (2, .int (nI v))]) hx hb dX0_begin_8 rfl hl (by decide) rfl (fun ls hl => ?_)
  refine lv_iload_n hx hb dX0_begin_9 rfl (lv_at hl 3 rfl) ?_
  refine lv_iconst (v := nI 1) hx hb dX0_begin_10 (by decide) ?_
  have lp_24 : ∀ (H : Heap) (locs : List Loc), va_P g.1 vwCl [(h0, .inr (0, [.int (nI ki), .int (nI kt), .int (nI kf), .int (nI km), .int (fr), .ref (h5), .ref (h6), .ref (h7)])), (h5, aJ g 720 ray), (h6, aI g 144 tg), (h7, aJ g 144 sl), (r0, .inr (2, [.int (nI ri), .int (nI ro), .ref (rn), .ref (rp)])), (rn, aI g 48 nu), (rp, aZ g 12 pt)] H → va_D A [(h0, .inr (0, [.int (nI ki), .int (nI kt), .int (nI kf), .int (nI km), .int (fr), .ref (h5), .ref (h6), .ref (h7)])), (h5, aJ g 720 ray), (h6, aI g 144 tg), (h7, aJ g 144 sl), (r0, .inr (2, [.int (nI ri), .int (nI ro), .ref (rn), .ref (rp)])), (rn, aI g 48 nu), (rp, aZ g 12 pt)] → va_S A s.heap H locs → ∀ ls : Array Slot, lv_has ls 8 [(0, .ref (h0)), (1, .ref (r0)), (2, .int (nI v)), (3, .int (axM kt))] → W p l e { frames := 1, cells := 0, slots := 0, locals := 24 } s m args below meth c H locs 0 0 Q (F0 m 24 ls [.int ((if v = 1 then nI 1 <<< (nI kt &&& 31) else nI 0))]) := by
    intro   H locs hP hD hS ls hl
    refine lv_istore (lv' := [(4, .int ((if v = 1 then nI 1 <<< (nI kt &&& 31) else nI 0))), (0, .ref (h0)), (1, .ref (r0)), (2, .int (nI v)), (3, .int (axM kt))]) hx hb dX0_begin_24 hl (by decide) rfl (fun ls hl => ?_)
    refine lv_iload_n hx hb dX0_begin_26 rfl (lv_at hl 3 rfl) ?_
    refine lv_iconst (v := nI 2) hx hb dX0_begin_27 (by decide) ?_
    have lp_39 : ∀ (H : Heap) (locs : List Loc), va_P g.1 vwCl [(h0, .inr (0, [.int (nI ki), .int (nI kt), .int (nI kf), .int (nI km), .int (fr), .ref (h5), .ref (h6), .ref (h7)])), (h5, aJ g 720 ray), (h6, aI g 144 tg), (h7, aJ g 144 sl), (r0, .inr (2, [.int (nI ri), .int (nI ro), .ref (rn), .ref (rp)])), (rn, aI g 48 nu), (rp, aZ g 12 pt)] H → va_D A [(h0, .inr (0, [.int (nI ki), .int (nI kt), .int (nI kf), .int (nI km), .int (fr), .ref (h5), .ref (h6), .ref (h7)])), (h5, aJ g 720 ray), (h6, aI g 144 tg), (h7, aJ g 144 sl), (r0, .inr (2, [.int (nI ri), .int (nI ro), .ref (rn), .ref (rp)])), (rn, aI g 48 nu), (rp, aZ g 12 pt)] → va_S A s.heap H locs → ∀ ls : Array Slot, lv_has ls 8 [(0, .ref (h0)), (1, .ref (r0)), (2, .int (nI v)), (3, .int (axM kt)), (4, .int ((if v = 1 then nI 1 <<< (nI kt &&& 31) else nI 0)))] → W p l e { frames := 1, cells := 0, slots := 0, locals := 24 } s m args below meth c H locs 0 0 Q (F0 m 39 ls [.int (oI (if v = 2 then fstP pt 0 12 else none))]) := by
      intro   H locs hP hD hS ls hl
      have hfo : ∀ q, (if v = 2 then fstP pt 0 12 else none) = some q → q < 12 := by
        intro q hq
        split at hq
        · have := fstP_lt hq; omega
        · cases hq
      refine lv_istore (lv' := [(5, .int (oI (if v = 2 then fstP pt 0 12 else none))), (0, .ref (h0)), (1, .ref (r0)), (2, .int (nI v)), (3, .int (axM kt)), (4, .int ((if v = 1 then nI 1 <<< (nI kt &&& 31) else nI 0)))]) hx hb dX0_begin_39 hl (by decide) rfl (fun ls hl => ?_)
      refine lv_aload_n hx hb dX0_begin_41 rfl (lv_at hl 1 rfl) ?_
      refine lv_iconst (v := nI 0) hx hb dX0_begin_42 (by decide) ?_
      refine k_put hx hb hts hown hK hP hD hS iw_X0_begin_X0 rfl tyX0 tyX0_ok nmX0 0 3 fm_X0_begin_56 (by decide) rfl rfl rfl rfl rfl (Nat.le_of_ble_eq_true rfl) dX0_begin_43 (fun H locs hP hD hS => ?_)
      have hP : va_P g.1 vwCl [(h0, .inr (0, [.int (nI ki), .int (nI kt), .int (nI kf), .int (nI 0), .int (fr), .ref (h5), .ref (h6), .ref (h7)])), (h5, aJ g 720 ray), (h6, aI g 144 tg), (h7, aJ g 144 sl), (r0, .inr (2, [.int (nI ri), .int (nI ro), .ref (rn), .ref (rp)])), (rn, aI g 48 nu), (rp, aZ g 12 pt)] H := hP
      have hD : va_D A [(h0, .inr (0, [.int (nI ki), .int (nI kt), .int (nI kf), .int (nI 0), .int (fr), .ref (h5), .ref (h6), .ref (h7)])), (h5, aJ g 720 ray), (h6, aI g 144 tg), (h7, aJ g 144 sl), (r0, .inr (2, [.int (nI ri), .int (nI ro), .ref (rn), .ref (rp)])), (rn, aI g 48 nu), (rp, aZ g 12 pt)] := hD
      refine lv_iconst (v := nI 0) hx hb dX0_begin_46 (by decide) ?_
      refine lv_istore (lv' := [(6, .int (nI 0)), (5, .int (oI (if v = 2 then fstP pt 0 12 else none))), (0, .ref (h0)), (1, .ref (r0)), (2, .int (nI v)), (3, .int (axM kt)), (4, .int ((if v = 1 then nI 1 <<< (nI kt &&& 31) else nI 0)))]) hx hb dX0_begin_47 hl (by decide) rfl (fun ls hl => ?_)
      have lp_49 : ∀ (n : Nat) (k : Nat) (st : CS), kt - k < n → k ≤ kt → st.1 = k → bgL nu (if v = 2 then fstP pt 0 12 else none) ki kt (if v = 1 then nI 1 <<< (nI kt &&& 31) else nI 0) 0 kt (0, ray, tg) = bgL nu (if v = 2 then fstP pt 0 12 else none) ki kt (if v = 1 then nI 1 <<< (nI kt &&& 31) else nI 0) k (kt - k) st → ∀ (H : Heap) (locs : List Loc), va_P g.1 vwCl [(h0, .inr (0, [.int (nI ki), .int (nI kt), .int (nI kf), .int (nI st.1), .int (fr), .ref (h5), .ref (h6), .ref (h7)])), (h5, aJ g 720 st.2.1), (h6, aI g 144 st.2.2), (h7, aJ g 144 sl), (r0, .inr (2, [.int (nI ri), .int (nI ro), .ref (rn), .ref (rp)])), (rn, aI g 48 nu), (rp, aZ g 12 pt)] H → va_D A [(h0, .inr (0, [.int (nI ki), .int (nI kt), .int (nI kf), .int (nI st.1), .int (fr), .ref (h5), .ref (h6), .ref (h7)])), (h5, aJ g 720 st.2.1), (h6, aI g 144 st.2.2), (h7, aJ g 144 sl), (r0, .inr (2, [.int (nI ri), .int (nI ro), .ref (rn), .ref (rp)])), (rn, aI g 48 nu), (rp, aZ g 12 pt)] → va_S A s.heap H locs → ∀ ls : Array Slot, lv_has ls 8 [(0, .ref (h0)), (1, .ref (r0)), (2, .int (nI v)), (3, .int (axM kt)), (4, .int ((if v = 1 then nI 1 <<< (nI kt &&& 31) else nI 0))), (5, .int (oI (if v = 2 then fstP pt 0 12 else none))), (6, .int (nI k))] → W p l e { frames := 1, cells := 0, slots := 0, locals := 24 } s m args below meth c H locs 0 0 Q (F0 m 49 ls []) := by
        intro n
        induction n with
        | zero =>
          intro k st hms
          omega
        | succ n ih_49 =>
          intro k st hms_49 hk hm hv H locs hP hD hS ls hl
          refine lv_iload hx hb dX0_begin_49 (lv_at hl 6 rfl) ?_
          refine lv_aload_n hx hb dX0_begin_51 rfl (lv_at hl 0 rfl) ?_
          refine k_get hx hb hts hown hK hP iw_X0_begin_X0 rfl 0 1 fm_X0_begin_32 (by decide) rfl rfl dX0_begin_52 ?_
          refine lv_icmp_ge (tgt := 139) hx hb dX0_begin_55 (by decide) (fun c_1 => ?_) (fun c_1 => ?_)
          · skip
            have c_1 := (nI_leI (by omega) (by omega)).mp c_1
            have hres : bgL nu (if v = 2 then fstP pt 0 12 else none) ki kt (if v = 1 then nI 1 <<< (nI kt &&& 31) else nI 0) 0 kt (0, ray, tg) = st := by rw [hv, show kt - k = 0 by omega]; rfl
            refine lv_iload_n hx hb dX0_begin_139 rfl (lv_at hl 2 rfl) ?_
            refine lv_if_eq (tgt := 153) hx hb dX0_begin_140 (by decide) (fun c_2 => ?_) (fun c_2 => ?_)
            · skip
              have c_2 := (nI_eq0 (by omega)).mp c_2
              have hbg : (bgF nu pt v ki kt (km, ray, tg)) = st := by simp only [bgF]; rw [if_pos c_2]; exact hres
              exact ret dX0_begin_153 () (trivial) (by rw [hbg]; exact hP) (by rw [hbg]; exact hD) hS
            · skip
              have c_2 := mt (nI_eq0 (by omega)).mpr c_2
              have hbg : (bgF nu pt v ki kt (km, ray, tg)) = (st.1 + 1, axL st.1 kt (-1) st.2.1, upd st.2.2 st.1 (axM kt)) := by simp only [bgF]; rw [if_neg c_2, hres]
              refine lv_aload_n hx hb dX0_begin_143 rfl (lv_at hl 0 rfl) ?_
              refine lv_aload_n hx hb dX0_begin_144 rfl (lv_at hl 0 rfl) ?_
              refine k_get hx hb hts hown hK hP iw_X0_begin_X0 rfl 0 1 fm_X0_begin_32 (by decide) rfl rfl dX0_begin_145 ?_
              refine lv_iconst (v := -1) hx hb dX0_begin_148 (by decide) ?_
              refine lv_iload_n hx hb dX0_begin_149 rfl (lv_at hl 3 rfl) ?_
              refine go_v (wc := [(h0, .inr (0, [.int (nI ki), .int (nI kt), .int (nI kf), .int (nI st.1), .int (fr), .ref (h5), .ref (h6), .ref (h7)])), (h5, aJ g 720 st.2.1), (h6, aI g 144 st.2.2), (h7, aJ g 144 sl)]) (wr := [(r0, .inr (2, [.int (nI ri), .int (nI ro), .ref (rn), .ref (rp)])), (rn, aI g 48 nu), (rp, aZ g 12 pt)]) hP hD hS hA [0, 1, 2, 3] [4, 5, 6] rfl rfl rfl rfl (by decide) (fun hPc hDc => rn_V (As := [.int (nI kt), .int (-1), .int (axM kt)]) (rest := []) ⟨hx, hb, hml, hown, hts⟩ ((c_X0_addAxis l g h0 h5 h6 h7 ki kt kf st.1 fr st.2.1 st.2.2 sl kt (-1) (axM kt) (by omega) (by omega)) _) (cwV 3 hts gX0_begin_X0_addAxis rfl rfl rfl (by decide +kernel) ⟨Nat.le_of_ble_eq_true rfl, Nat.le_of_ble_eq_true rfl⟩) hK hN hPc hDc 0 rfl rfl rfl rfl hl.1 (Nat.le_of_ble_eq_true rfl) dX0_begin_150 ⟨Nat.le_of_ble_eq_true rfl, Nat.le_of_ble_eq_true rfl⟩) ?_
              intro u_4 H locs h_5 hP hD hS
              have hP : va_P g.1 vwCl [(h0, .inr (0, [.int (nI ki), .int (nI kt), .int (nI kf), .int (nI (st.1 + 1)), .int (fr), .ref (h5), .ref (h6), .ref (h7)])), (h5, aJ g 720 (axL st.1 kt (-1) st.2.1)), (h6, aI g 144 (upd st.2.2 st.1 (axM kt))), (h7, aJ g 144 sl), (r0, .inr (2, [.int (nI ri), .int (nI ro), .ref (rn), .ref (rp)])), (rn, aI g 48 nu), (rp, aZ g 12 pt)] H := hP.sub [3, 4, 5, 6, 0, 1, 2] rfl
              have hD : va_D A [(h0, .inr (0, [.int (nI ki), .int (nI kt), .int (nI kf), .int (nI (st.1 + 1)), .int (fr), .ref (h5), .ref (h6), .ref (h7)])), (h5, aJ g 720 (axL st.1 kt (-1) st.2.1)), (h6, aI g 144 (upd st.2.2 st.1 (axM kt))), (h7, aJ g 144 sl), (r0, .inr (2, [.int (nI ri), .int (nI ro), .ref (rn), .ref (rp)])), (rn, aI g 48 nu), (rp, aZ g 12 pt)] := hD.sub [3, 4, 5, 6, 0, 1, 2] rfl rfl
              exact ret dX0_begin_153 () (trivial) (by rw [hbg]; exact hP) (by rw [hbg]; exact hD) hS
          · skip
            have c_1 := mt (nI_leI (by omega) (by omega)).mpr c_1
            refine lv_iload hx hb dX0_begin_58 (lv_at hl 5 rfl) ?_
            refine lv_iconst (v := -1) hx hb dX0_begin_60 (by decide) ?_
            have lp_76 : ∀ (H : Heap) (locs : List Loc), va_P g.1 vwCl [(h0, .inr (0, [.int (nI ki), .int (nI kt), .int (nI kf), .int (nI st.1), .int (fr), .ref (h5), .ref (h6), .ref (h7)])), (h5, aJ g 720 st.2.1), (h6, aI g 144 st.2.2), (h7, aJ g 144 sl), (r0, .inr (2, [.int (nI ri), .int (nI ro), .ref (rn), .ref (rp)])), (rn, aI g 48 nu), (rp, aZ g 12 pt)] H → va_D A [(h0, .inr (0, [.int (nI ki), .int (nI kt), .int (nI kf), .int (nI st.1), .int (fr), .ref (h5), .ref (h6), .ref (h7)])), (h5, aJ g 720 st.2.1), (h6, aI g 144 st.2.2), (h7, aJ g 144 sl), (r0, .inr (2, [.int (nI ri), .int (nI ro), .ref (rn), .ref (rp)])), (rn, aI g 48 nu), (rp, aZ g 12 pt)] → va_S A s.heap H locs → ∀ ls : Array Slot, lv_has ls 8 [(0, .ref (h0)), (1, .ref (r0)), (2, .int (nI v)), (3, .int (axM kt)), (4, .int ((if v = 1 then nI 1 <<< (nI kt &&& 31) else nI 0))), (5, .int (oI (if v = 2 then fstP pt 0 12 else none))), (6, .int (nI k))] → W p l e { frames := 1, cells := 0, slots := 0, locals := 24 } s m args below meth c H locs 0 0 Q (F0 m 76 ls [.int (bgV nu (if v = 2 then fstP pt 0 12 else none) k)]) := by
              intro   H locs hP hD hS ls hl
              refine lv_istore (lv' := [(7, .int (bgV nu (if v = 2 then fstP pt 0 12 else none) k)), (0, .ref (h0)), (1, .ref (r0)), (2, .int (nI v)), (3, .int (axM kt)), (4, .int ((if v = 1 then nI 1 <<< (nI kt &&& 31) else nI 0))), (5, .int (oI (if v = 2 then fstP pt 0 12 else none))), (6, .int (nI k))]) hx hb dX0_begin_76 hl (by decide) rfl (fun ls hl => ?_)
              refine lv_aload_n hx hb dX0_begin_78 rfl (lv_at hl 1 rfl) ?_
              refine lv_iload hx hb dX0_begin_79 (lv_at hl 7 rfl) ?_
              refine lv_iconst (v := nI 1) hx hb dX0_begin_81 (by decide) ?_
              refine lv_iload_n hx hb dX0_begin_82 rfl (lv_at hl 4 rfl) ?_
              refine lv_iconst (v := nI 1) hx hb dX0_begin_83 (by decide) ?_
              refine lv_iload hx hb dX0_begin_84 (lv_at hl 7 rfl) ?_
              refine lv_ishl hx hb dX0_begin_86 ?_
              refine lv_iconst (v := -1) hx hb dX0_begin_87 (by decide) ?_
              refine lv_ixor hx hb dX0_begin_88 ?_
              refine lv_iand hx hb dX0_begin_89 ?_
              refine lv_iload hx hb dX0_begin_90 (lv_at hl 5 rfl) ?_
              refine lv_ior hx hb dX0_begin_92 ?_
              refine go_v (wc := [(h0, .inr (0, [.int (nI ki), .int (nI kt), .int (nI kf), .int (nI st.1), .int (fr), .ref (h5), .ref (h6), .ref (h7)])), (h5, aJ g 720 st.2.1), (h6, aI g 144 st.2.2), (h7, aJ g 144 sl)]) (wr := [(r0, .inr (2, [.int (nI ri), .int (nI ro), .ref (rn), .ref (rp)])), (rn, aI g 48 nu), (rp, aZ g 12 pt)]) hP hD hS hA [0, 1, 2, 3] [4, 5, 6] rfl rfl rfl rfl (by decide) (fun hPc hDc => rn_V (As := [.int (nI k), .int (nI 1), .int (((axM kt) &&& (((nI 1) <<< ((nI k) &&& 31)) ^^^ (-1))) ||| ((if v = 1 then nI 1 <<< (nI kt &&& 31) else nI 0)))]) (rest := []) ⟨hx, hb, hml, hown, hts⟩ ((c_X0_addAxis l g h0 h5 h6 h7 ki kt kf st.1 fr st.2.1 st.2.2 sl k (nI 1) (((axM kt) &&& (((nI 1) <<< ((nI k) &&& 31)) ^^^ (-1))) ||| ((if v = 1 then nI 1 <<< (nI kt &&& 31) else nI 0))) (by omega) (by omega)) _) (cwV 3 hts gX0_begin_X0_addAxis rfl rfl rfl (by decide +kernel) ⟨Nat.le_of_ble_eq_true rfl, Nat.le_of_ble_eq_true rfl⟩) hK hN hPc hDc 0 rfl rfl rfl rfl hl.1 (Nat.le_of_ble_eq_true rfl) dX0_begin_93 ⟨Nat.le_of_ble_eq_true rfl, Nat.le_of_ble_eq_true rfl⟩) ?_
              intro u_7 H locs h_8 hP hD hS
              have hP : va_P g.1 vwCl [(h0, .inr (0, [.int (nI ki), .int (nI kt), .int (nI kf), .int (nI (st.1 + 1)), .int (fr), .ref (h5), .ref (h6), .ref (h7)])), (h5, aJ g 720 (axL st.1 k (nI 1) st.2.1)), (h6, aI g 144 (upd st.2.2 st.1 (((axM kt) &&& (((nI 1) <<< ((nI k) &&& 31)) ^^^ (-1))) ||| ((if v = 1 then nI 1 <<< (nI kt &&& 31) else nI 0))))), (h7, aJ g 144 sl), (r0, .inr (2, [.int (nI ri), .int (nI ro), .ref (rn), .ref (rp)])), (rn, aI g 48 nu), (rp, aZ g 12 pt)] H := hP.sub [3, 4, 5, 6, 0, 1, 2] rfl
              have hD : va_D A [(h0, .inr (0, [.int (nI ki), .int (nI kt), .int (nI kf), .int (nI (st.1 + 1)), .int (fr), .ref (h5), .ref (h6), .ref (h7)])), (h5, aJ g 720 (axL st.1 k (nI 1) st.2.1)), (h6, aI g 144 (upd st.2.2 st.1 (((axM kt) &&& (((nI 1) <<< ((nI k) &&& 31)) ^^^ (-1))) ||| ((if v = 1 then nI 1 <<< (nI kt &&& 31) else nI 0))))), (h7, aJ g 144 sl), (r0, .inr (2, [.int (nI ri), .int (nI ro), .ref (rn), .ref (rp)])), (rn, aI g 48 nu), (rp, aZ g 12 pt)] := hD.sub [3, 4, 5, 6, 0, 1, 2] rfl rfl
              refine lv_aload_n hx hb dX0_begin_96 rfl (lv_at hl 1 rfl) ?_
              refine k_get hx hb hts hown hK hP iw_X0_begin_X0 rfl 0 5 fm_X0_begin_11 (by decide) rfl rfl dX0_begin_97 ?_
              refine lv_aload_n hx hb dX0_begin_100 rfl (lv_at hl 1 rfl) ?_
              refine k_get hx hb hts hown hK hP iw_X0_begin_X0 rfl 0 3 fm_X0_begin_56 (by decide) rfl rfl dX0_begin_101 ?_
              refine lv_iconst (v := nI 1) hx hb dX0_begin_104 (by decide) ?_
              refine lv_isub hx hb dX0_begin_105 ?_
              refine k_ei (y := nI ((st.1 + 1) - 1)) (pk_sub (by omega)) ?_
              refine k_ei (y := nI st.1) (rfl) ?_
              refine lv_iconst (v := nI 5) hx hb dX0_begin_106 (by decide) ?_
              refine lv_imul hx hb dX0_begin_107 ?_
              refine k_ei (y := nI (st.1 * 5)) (pk_mul _ _) ?_
              refine lv_aload_n hx hb dX0_begin_108 rfl (lv_at hl 1 rfl) ?_
              refine k_get hx hb hts hown hK hP iw_X0_begin_X0 rfl 0 1 fm_X0_begin_32 (by decide) rfl rfl dX0_begin_109 ?_
              refine lv_iadd hx hb dX0_begin_112 ?_
              refine k_ei (y := nI (st.1 * 5 + kt)) (nI_add _ _) ?_
              refine lv_iload hx hb dX0_begin_113 (lv_at hl 7 rfl) ?_
              refine lv_aload_n hx hb dX0_begin_115 rfl (lv_at hl 1 rfl) ?_
              refine k_get hx hb hts hown hK hP iw_X0_begin_X0 rfl 0 0 fm_X0_begin_28 (by decide) rfl rfl dX0_begin_116 ?_
              refine lv_icmp_ge (tgt := 128) hx hb dX0_begin_119 (by decide) (fun c_9 => ?_) (fun c_9 => ?_)
              · skip
                have c_9 := (nI_leI (by omega) (by omega)).mp c_9
                have hc := c_9
                refine lv_iload hx hb dX0_begin_128 (lv_at hl 0 rfl) ?_
                refine lv_ineg hx hb dX0_begin_130 ?_
                refine lv_i2l hx hb dX0_begin_131 rfl ?_
                refine k_el (y := if k < ki then (bgV nu (if v = 2 then fstP pt 0 12 else none) k).toInt64 else (-(bgV nu (if v = 2 then fstP pt 0 12 else none) k)).toInt64) ((if_neg (show ¬ k < ki by omega)).symm) ?_
                refine k_last hx hb hK hP hD hS 1 rfl (by omega) (by omega) dX0_begin_132 (fun H locs hP hD hS => ?_)
                have hP : va_P g.1 vwCl [(h0, .inr (0, [.int (nI ki), .int (nI kt), .int (nI kf), .int (nI (st.1 + 1)), .int (fr), .ref (h5), .ref (h6), .ref (h7)])), (h5, aJ g 720 (vp_updL (axL st.1 k (nI 1) st.2.1) (st.1 * 5 + kt) (if k < ki then (bgV nu (if v = 2 then fstP pt 0 12 else none) k).toInt64 else (-(bgV nu (if v = 2 then fstP pt 0 12 else none) k)).toInt64))), (h6, aI g 144 (upd st.2.2 st.1 (((axM kt) &&& (((nI 1) <<< ((nI k) &&& 31)) ^^^ (-1))) ||| ((if v = 1 then nI 1 <<< (nI kt &&& 31) else nI 0))))), (h7, aJ g 144 sl), (r0, .inr (2, [.int (nI ri), .int (nI ro), .ref (rn), .ref (rp)])), (rn, aI g 48 nu), (rp, aZ g 12 pt)] H := hP
                have hD : va_D A [(h0, .inr (0, [.int (nI ki), .int (nI kt), .int (nI kf), .int (nI (st.1 + 1)), .int (fr), .ref (h5), .ref (h6), .ref (h7)])), (h5, aJ g 720 (vp_updL (axL st.1 k (nI 1) st.2.1) (st.1 * 5 + kt) (if k < ki then (bgV nu (if v = 2 then fstP pt 0 12 else none) k).toInt64 else (-(bgV nu (if v = 2 then fstP pt 0 12 else none) k)).toInt64))), (h6, aI g 144 (upd st.2.2 st.1 (((axM kt) &&& (((nI 1) <<< ((nI k) &&& 31)) ^^^ (-1))) ||| ((if v = 1 then nI 1 <<< (nI kt &&& 31) else nI 0))))), (h7, aJ g 144 sl), (r0, .inr (2, [.int (nI ri), .int (nI ro), .ref (rn), .ref (rp)])), (rn, aI g 48 nu), (rp, aZ g 12 pt)] := hD
                refine lv_iinc (v := nI (k + 1)) (lv' := [(6, .int (nI (k + 1))), (7, .int (bgV nu (if v = 2 then fstP pt 0 12 else none) k)), (0, .ref (h0)), (1, .ref (r0)), (2, .int (nI v)), (3, .int (axM kt)), (4, .int ((if v = 1 then nI 1 <<< (nI kt &&& 31) else nI 0))), (5, .int (oI (if v = 2 then fstP pt 0 12 else none)))]) hx hb dX0_begin_133 hl (k := 7) rfl (nI_inc1 k) (by decide) rfl (fun ls hl => ?_)
                refine lv_goto (tgt := 49) hx hb dX0_begin_136 (by decide) ?_
                exact ih_49 (k + 1) ((bgS nu (if v = 2 then fstP pt 0 12 else none) ki kt (if v = 1 then nI 1 <<< (nI kt &&& 31) else nI 0) k st)) (by omega) (by omega) (by show st.1 + 1 = k + 1; omega) (by rw [hv, show kt - k = (kt - (k + 1)) + 1 by omega, bgL]) _ _ hP hD hS ls (lv_sub hl [2, 3, 4, 5, 6, 7, 0] rfl)
              · skip
                have c_9 := mt (nI_leI (by omega) (by omega)).mpr c_9
                have hc := c_9
                refine lv_iload hx hb dX0_begin_122 (lv_at hl 0 rfl) ?_
                refine lv_i2l hx hb dX0_begin_124 rfl ?_
                refine k_el (y := if k < ki then (bgV nu (if v = 2 then fstP pt 0 12 else none) k).toInt64 else (-(bgV nu (if v = 2 then fstP pt 0 12 else none) k)).toInt64) ((if_pos (show k < ki by omega)).symm) ?_
                refine lv_goto (tgt := 132) hx hb dX0_begin_125 (by decide) ?_
                refine k_last hx hb hK hP hD hS 1 rfl (by omega) (by omega) dX0_begin_132 (fun H locs hP hD hS => ?_)
                have hP : va_P g.1 vwCl [(h0, .inr (0, [.int (nI ki), .int (nI kt), .int (nI kf), .int (nI (st.1 + 1)), .int (fr), .ref (h5), .ref (h6), .ref (h7)])), (h5, aJ g 720 (vp_updL (axL st.1 k (nI 1) st.2.1) (st.1 * 5 + kt) (if k < ki then (bgV nu (if v = 2 then fstP pt 0 12 else none) k).toInt64 else (-(bgV nu (if v = 2 then fstP pt 0 12 else none) k)).toInt64))), (h6, aI g 144 (upd st.2.2 st.1 (((axM kt) &&& (((nI 1) <<< ((nI k) &&& 31)) ^^^ (-1))) ||| ((if v = 1 then nI 1 <<< (nI kt &&& 31) else nI 0))))), (h7, aJ g 144 sl), (r0, .inr (2, [.int (nI ri), .int (nI ro), .ref (rn), .ref (rp)])), (rn, aI g 48 nu), (rp, aZ g 12 pt)] H := hP
                have hD : va_D A [(h0, .inr (0, [.int (nI ki), .int (nI kt), .int (nI kf), .int (nI (st.1 + 1)), .int (fr), .ref (h5), .ref (h6), .ref (h7)])), (h5, aJ g 720 (vp_updL (axL st.1 k (nI 1) st.2.1) (st.1 * 5 + kt) (if k < ki then (bgV nu (if v = 2 then fstP pt 0 12 else none) k).toInt64 else (-(bgV nu (if v = 2 then fstP pt 0 12 else none) k)).toInt64))), (h6, aI g 144 (upd st.2.2 st.1 (((axM kt) &&& (((nI 1) <<< ((nI k) &&& 31)) ^^^ (-1))) ||| ((if v = 1 then nI 1 <<< (nI kt &&& 31) else nI 0))))), (h7, aJ g 144 sl), (r0, .inr (2, [.int (nI ri), .int (nI ro), .ref (rn), .ref (rp)])), (rn, aI g 48 nu), (rp, aZ g 12 pt)] := hD
                refine lv_iinc (v := nI (k + 1)) (lv' := [(6, .int (nI (k + 1))), (7, .int (bgV nu (if v = 2 then fstP pt 0 12 else none) k)), (0, .ref (h0)), (1, .ref (r0)), (2, .int (nI v)), (3, .int (axM kt)), (4, .int ((if v = 1 then nI 1 <<< (nI kt &&& 31) else nI 0))), (5, .int (oI (if v = 2 then fstP pt 0 12 else none)))]) hx hb dX0_begin_133 hl (k := 7) rfl (nI_inc1 k) (by decide) rfl (fun ls hl => ?_)
                refine lv_goto (tgt := 49) hx hb dX0_begin_136 (by decide) ?_
                exact ih_49 (k + 1) ((bgS nu (if v = 2 then fstP pt 0 12 else none) ki kt (if v = 1 then nI 1 <<< (nI kt &&& 31) else nI 0) k st)) (by omega) (by omega) (by show st.1 + 1 = k + 1; omega) (by rw [hv, show kt - k = (kt - (k + 1)) + 1 by omega, bgL]) _ _ hP hD hS ls (lv_sub hl [2, 3, 4, 5, 6, 7, 0] rfl)
            refine lv_icmp_ne (tgt := 68) hx hb dX0_begin_61 (by decide) (fun c_10 => ?_) (fun c_10 => ?_)
            · skip
              obtain ⟨q, hq⟩ := oI_ne c_10
              have ho : oI (if v = 2 then fstP pt 0 12 else none) = nI q := by rw [hq]; rfl
              have hq12 := hfo q hq
              refine lv_aload_n hx hb dX0_begin_68 rfl (lv_at hl 1 rfl) ?_
              refine lv_iload hx hb dX0_begin_69 (lv_at hl 5 rfl) ?_
              refine k_ei (y := nI q) (ho) ?_
              refine lv_iload hx hb dX0_begin_71 (lv_at hl 6 rfl) ?_
              refine go_i (wc := [(r0, .inr (2, [.int (nI ri), .int (nI ro), .ref (rn), .ref (rp)])), (rn, aI g 48 nu), (rp, aZ g 12 pt)]) (wr := [(h0, .inr (0, [.int (nI ki), .int (nI kt), .int (nI kf), .int (nI st.1), .int (fr), .ref (h5), .ref (h6), .ref (h7)])), (h5, aJ g 720 st.2.1), (h6, aI g 144 st.2.2), (h7, aJ g 144 sl)]) hP hD hS hA [4, 5, 6] [0, 1, 2, 3] rfl rfl rfl rfl (by decide) (fun hPc hDc => rn_VN (As := [.int (nI q), .int (nI k)]) (rest := []) ⟨hx, hb, hml, hown, hts⟩ ((c_X2_of l g r0 rn rp ri ro nu pt q k (by omega) (by omega)) _) (⟨va_cnB 2 hts gX0_begin_X2_of_n59 rfl rfl rfl (hN.2 _ (List.mem_of_getElem? (i := 10) rfl)) (hts _ (by decide +kernel)) (by decide +kernel) ⟨Nat.le_of_ble_eq_true rfl, Nat.le_of_ble_eq_true rfl⟩, hts _ (by decide +kernel), hts _ (by decide +kernel)⟩) hK hN hPc hDc 0 rfl rfl rfl rfl hl.1 (Nat.le_of_ble_eq_true rfl) dX0_begin_73 ⟨Nat.le_of_ble_eq_true rfl, Nat.le_of_ble_eq_true rfl⟩) ?_
              intro r_11 u_12 H locs h_13 hP hD hS
              have hP : va_P g.1 vwCl [(h0, .inr (0, [.int (nI ki), .int (nI kt), .int (nI kf), .int (nI st.1), .int (fr), .ref (h5), .ref (h6), .ref (h7)])), (h5, aJ g 720 st.2.1), (h6, aI g 144 st.2.2), (h7, aJ g 144 sl), (r0, .inr (2, [.int (nI ri), .int (nI ro), .ref (rn), .ref (rp)])), (rn, aI g 48 nu), (rp, aZ g 12 pt)] H := hP.sub [0, 1, 2, 3, 4, 5, 6] rfl
              have hD : va_D A [(h0, .inr (0, [.int (nI ki), .int (nI kt), .int (nI kf), .int (nI st.1), .int (fr), .ref (h5), .ref (h6), .ref (h7)])), (h5, aJ g 720 st.2.1), (h6, aI g 144 st.2.2), (h7, aJ g 144 sl), (r0, .inr (2, [.int (nI ri), .int (nI ro), .ref (rn), .ref (rp)])), (rn, aI g 48 nu), (rp, aZ g 12 pt)] := hD.sub [0, 1, 2, 3, 4, 5, 6] rfl rfl
              have h_13 : r_11 = nu (q * 4 + k) := h_13
              subst h_13
              refine k_ei (y := bgV nu (if v = 2 then fstP pt 0 12 else none) k) (by rw [hq]; rfl) ?_
              exact lp_76   _ _ hP hD hS ls (lv_sub hl [0, 1, 2, 3, 4, 5, 6] rfl)
            · skip
              have hfn := oI_no hfo c_10
              refine lv_iconst (v := nI 0) hx hb dX0_begin_64 (by decide) ?_
              refine k_ei (y := bgV nu (if v = 2 then fstP pt 0 12 else none) k) (by rw [hfn]; rfl) ?_
              refine lv_goto (tgt := 76) hx hb dX0_begin_65 (by decide) ?_
              exact lp_76   _ _ hP hD hS ls (lv_sub hl [0, 1, 2, 3, 4, 5, 6] rfl)
      exact lp_49 (kt - 0 + 1) 0 (((0, ray, tg) : CS)) (by omega) (by omega) rfl rfl _ _ hP hD hS ls (lv_sub hl [2, 3, 4, 5, 6, 1, 0] rfl)
    refine lv_icmp_ne (tgt := 38) hx hb dX0_begin_28 (by decide) (fun c_14 => ?_) (fun c_14 => ?_)
    · skip
      have c_14 := mt (nI_eq (by omega) (by omega)).mpr c_14
      have hc := c_14
      refine lv_iconst (v := -1) hx hb dX0_begin_38 (by decide) ?_
      refine k_ei (y := oI (if v = 2 then fstP pt 0 12 else none)) (by rw [if_neg hc]; rfl) ?_
      exact lp_39   _ _ hP hD hS ls (lv_sub hl [1, 2, 3, 4, 0] rfl)
    · skip
      have c_14 := (nI_eq (by omega) (by omega)).mp c_14
      have hc := c_14
      refine lv_aload_n hx hb dX0_begin_31 rfl (lv_at hl 2 rfl) ?_
      refine go_i (wc := [(r0, .inr (2, [.int (nI ri), .int (nI ro), .ref (rn), .ref (rp)])), (rn, aI g 48 nu), (rp, aZ g 12 pt)]) (wr := [(h0, .inr (0, [.int (nI ki), .int (nI kt), .int (nI kf), .int (nI km), .int (fr), .ref (h5), .ref (h6), .ref (h7)])), (h5, aJ g 720 ray), (h6, aI g 144 tg), (h7, aJ g 144 sl)]) hP hD hS hA [4, 5, 6] [0, 1, 2, 3] rfl rfl rfl rfl (by decide) (fun hPc hDc => rn_VN (As := []) (rest := []) ⟨hx, hb, hml, hown, hts⟩ ((c_X2_firstPart l g r0 rn rp ri ro nu pt ) _) (⟨va_cnB 0 hts gX0_begin_X2_firstPart_n52 rfl rfl rfl (hN.2 _ (List.mem_of_getElem? (i := 9) rfl)) (hts _ (by decide +kernel)) (by decide +kernel) ⟨Nat.le_of_ble_eq_true rfl, Nat.le_of_ble_eq_true rfl⟩, hts _ (by decide +kernel), hts _ (by decide +kernel)⟩) hK hN hPc hDc 0 rfl rfl rfl rfl hl.1 (Nat.le_of_ble_eq_true rfl) dX0_begin_32 ⟨Nat.le_of_ble_eq_true rfl, Nat.le_of_ble_eq_true rfl⟩) ?_
      intro r_15 u_16 H locs h_17 hP hD hS
      have hP : va_P g.1 vwCl [(h0, .inr (0, [.int (nI ki), .int (nI kt), .int (nI kf), .int (nI km), .int (fr), .ref (h5), .ref (h6), .ref (h7)])), (h5, aJ g 720 ray), (h6, aI g 144 tg), (h7, aJ g 144 sl), (r0, .inr (2, [.int (nI ri), .int (nI ro), .ref (rn), .ref (rp)])), (rn, aI g 48 nu), (rp, aZ g 12 pt)] H := hP.sub [0, 1, 2, 3, 4, 5, 6] rfl
      have hD : va_D A [(h0, .inr (0, [.int (nI ki), .int (nI kt), .int (nI kf), .int (nI km), .int (fr), .ref (h5), .ref (h6), .ref (h7)])), (h5, aJ g 720 ray), (h6, aI g 144 tg), (h7, aJ g 144 sl), (r0, .inr (2, [.int (nI ri), .int (nI ro), .ref (rn), .ref (rp)])), (rn, aI g 48 nu), (rp, aZ g 12 pt)] := hD.sub [0, 1, 2, 3, 4, 5, 6] rfl rfl
      have h_17 : r_15 = oI (fstP pt 0 12) := h_17
      subst h_17
      refine k_ei (y := oI (if v = 2 then fstP pt 0 12 else none)) (by rw [if_pos hc]) ?_
      refine lv_goto (tgt := 39) hx hb dX0_begin_35 (by decide) ?_
      exact lp_39   _ _ hP hD hS ls (lv_sub hl [1, 2, 3, 4, 0] rfl)
  refine lv_icmp_ne (tgt := 23) hx hb dX0_begin_11 (by decide) (fun c_18 => ?_) (fun c_18 => ?_)
  · skip
    have c_18 := mt (nI_eq (by omega) (by omega)).mpr c_18
    have hc := c_18
    refine lv_iconst (v := nI 0) hx hb dX0_begin_23 (by decide) ?_
    refine k_ei (y := (if v = 1 then nI 1 <<< (nI kt &&& 31) else nI 0)) (by rw [if_neg hc]) ?_
    exact lp_24   _ _ hP hD hS ls (lv_sub hl [1, 2, 3, 0] rfl)
  · skip
    have c_18 := (nI_eq (by omega) (by omega)).mp c_18
    have hc := c_18
    refine lv_iconst (v := nI 1) hx hb dX0_begin_14 (by decide) ?_
    refine lv_aload_n hx hb dX0_begin_15 rfl (lv_at hl 1 rfl) ?_
    refine k_get hx hb hts hown hK hP iw_X0_begin_X0 rfl 0 1 fm_X0_begin_32 (by decide) rfl rfl dX0_begin_16 ?_
    refine lv_ishl hx hb dX0_begin_19 ?_
    refine k_ei (y := (if v = 1 then nI 1 <<< (nI kt &&& 31) else nI 0)) (by rw [if_pos hc]) ?_
    refine lv_goto (tgt := 24) hx hb dX0_begin_20 (by decide) ?_
    exact lp_24   _ _ hP hD hS ls (lv_sub hl [1, 2, 3, 0] rfl)
theorem iw_X0_build_X2 : ∀ w ∈ wsX20, w ∈ wsX0_build := by decide +kernel
theorem iw_X0_build_X0 : ∀ w ∈ wsX00, w ∈ wsX0_build := by decide +kernel
theorem fm_X0_build_28 : Cond.fieldLink RX0 28 "EdgeBench$Cone" "ins" "I" ∈ wsX0_build := by decide +kernel
theorem fm_X0_build_32 : Cond.fieldLink RX0 32 "EdgeBench$Cone" "things" "I" ∈ wsX0_build := by decide +kernel
theorem fm_X0_build_35 : Cond.fieldLink RX0 35 "EdgeBench$Cone" "fewestShared" "I" ∈ wsX0_build := by decide +kernel
set_option maxHeartbeats 4000000 in
set_option maxRecDepth 100000 in
theorem c_X0_build (l : Launch) (g : Gt) (h0 : Nat) (h5 : Nat) (h6 : Nat) (h7 : Nat) (ki : Nat) (kt : Nat) (kf : Nat) (km : Nat) (fr : Int32) (ray : Nat → Int64) (tg : Nat → Int32) (sl : Nat → Int64) (r0 : Nat) (rn : Nat) (rp : Nat) (ri : Nat) (ro : Nat) (nu : Nat → Int32) (pt : Nat → Int32) (v : Nat) (hv2 : v ≤ 2) (hri : ri ≤ 2) (hro : ro ≤ 2) (hri1 : 1 ≤ ri) (hro1 : 1 ≤ ro) : CV l yX0_build wsX0_build { frames := 3, cells := 0, slots := 0, locals := 84 } g [.ref (h0), .ref (r0), .int (nI v)] [(h0, .inr (0, [.int (nI ki), .int (nI kt), .int (nI kf), .int (nI km), .int (fr), .ref (h5), .ref (h6), .ref (h7)])), (h5, aJ g 720 ray), (h6, aI g 144 tg), (h7, aJ g 144 sl), (r0, .inr (2, [.int (nI ri), .int (nI ro), .ref (rn), .ref (rp)])), (rn, aI g 48 nu), (rp, aZ g 12 pt)] (fun (zu : Unit) => True) (fun (zu : Unit) => [(h0, .inr (0, [.int (nI ri), .int (nI (ri + ro)), .int (nI (bdK v (ri + ro))), .int (nI ((bdS nu pt v ri (ri + ro) ray tg sl km).1)), .int (fr), .ref (h5), .ref (h6), .ref (h7)])), (h5, aJ g 720 ((bdS nu pt v ri (ri + ro) ray tg sl km).2.1)), (h6, aI g 144 ((bdS nu pt v ri (ri + ro) ray tg sl km).2.2)), (h7, aJ g 144 ((bdQ nu pt v ri (ri + ro) ray tg sl km).2)), (r0, .inr (2, [.int (nI ri), .int (nI ro), .ref (rn), .ref (rp)])), (rn, aI g 48 nu), (rp, aZ g 12 pt)]) 0 0 := by
  refine ent_v (cc := cX0_build) (maxL := 4) (by decide) rfl (Nat.le_of_ble_eq_true rfl) ?_
  intro p e s m below meth c A args Q hE ret ls hl
  obtain ⟨hx, hb, hml, hown, hts, hnm, hA, hP, hD, hK, hN⟩ := hE
  have hS : va_S A s.heap s.heap [] := va_S.rf
  have hl : lv_has ls 4 [(0, .ref (h0)), (1, .ref (r0)), (2, .int (nI v))] := hl
  have hP : va_P g.1 vwCl [(h0, .inr (0, [.int (nI ki), .int (nI kt), .int (nI kf), .int (nI km), .int (fr), .ref (h5), .ref (h6), .ref (h7)])), (h5, aJ g 720 ray), (h6, aI g 144 tg), (h7, aJ g 144 sl), (r0, .inr (2, [.int (nI ri), .int (nI ro), .ref (rn), .ref (rp)])), (rn, aI g 48 nu), (rp, aZ g 12 pt)] s.heap := hP
  refine lv_aload_n hx hb dX0_build_0 rfl (lv_at hl 0 rfl) ?_
  refine lv_aload_n hx hb dX0_build_1 rfl (lv_at hl 1 rfl) ?_
  refine k_getN hx hb hts hown hK hN hP iw_X0_build_X2 rfl 4 0 (List.mem_of_getElem? (i := 0) rfl) (by decide) rfl rfl dX0_build_2 ?_
  refine k_put hx hb hts hown hK hP hD hS iw_X0_build_X0 rfl tyX0 tyX0_ok nmX0 0 0 fm_X0_build_28 (by decide) rfl rfl rfl rfl rfl (Nat.le_of_ble_eq_true rfl) dX0_build_5 (fun H locs hP hD hS => ?_)
  have hP : va_P g.1 vwCl [(h0, .inr (0, [.int (nI ri), .int (nI kt), .int (nI kf), .int (nI km), .int (fr), .ref (h5), .ref (h6), .ref (h7)])), (h5, aJ g 720 ray), (h6, aI g 144 tg), (h7, aJ g 144 sl), (r0, .inr (2, [.int (nI ri), .int (nI ro), .ref (rn), .ref (rp)])), (rn, aI g 48 nu), (rp, aZ g 12 pt)] H := hP
  have hD : va_D A [(h0, .inr (0, [.int (nI ri), .int (nI kt), .int (nI kf), .int (nI km), .int (fr), .ref (h5), .ref (h6), .ref (h7)])), (h5, aJ g 720 ray), (h6, aI g 144 tg), (h7, aJ g 144 sl), (r0, .inr (2, [.int (nI ri), .int (nI ro), .ref (rn), .ref (rp)])), (rn, aI g 48 nu), (rp, aZ g 12 pt)] := hD
  refine lv_aload_n hx hb dX0_build_8 rfl (lv_at hl 0 rfl) ?_
  refine lv_aload_n hx hb dX0_build_9 rfl (lv_at hl 1 rfl) ?_
  refine k_getN hx hb hts hown hK hN hP iw_X0_build_X2 rfl 4 0 (List.mem_of_getElem? (i := 0) rfl) (by decide) rfl rfl dX0_build_10 ?_
  refine lv_aload_n hx hb dX0_build_13 rfl (lv_at hl 1 rfl) ?_
  refine k_getN hx hb hts hown hK hN hP iw_X0_build_X2 rfl 4 1 (List.mem_of_getElem? (i := 2) rfl) (by decide) rfl rfl dX0_build_14 ?_
  refine lv_iadd hx hb dX0_build_17 ?_
  refine k_ei (y := nI (ri + ro)) (nI_add _ _) ?_
  refine k_put hx hb hts hown hK hP hD hS iw_X0_build_X0 rfl tyX0 tyX0_ok nmX0 0 1 fm_X0_build_32 (by decide) rfl rfl rfl rfl rfl (Nat.le_of_ble_eq_true rfl) dX0_build_18 (fun H locs hP hD hS => ?_)
  have hP : va_P g.1 vwCl [(h0, .inr (0, [.int (nI ri), .int (nI (ri + ro)), .int (nI kf), .int (nI km), .int (fr), .ref (h5), .ref (h6), .ref (h7)])), (h5, aJ g 720 ray), (h6, aI g 144 tg), (h7, aJ g 144 sl), (r0, .inr (2, [.int (nI ri), .int (nI ro), .ref (rn), .ref (rp)])), (rn, aI g 48 nu), (rp, aZ g 12 pt)] H := hP
  have hD : va_D A [(h0, .inr (0, [.int (nI ri), .int (nI (ri + ro)), .int (nI kf), .int (nI km), .int (fr), .ref (h5), .ref (h6), .ref (h7)])), (h5, aJ g 720 ray), (h6, aI g 144 tg), (h7, aJ g 144 sl), (r0, .inr (2, [.int (nI ri), .int (nI ro), .ref (rn), .ref (rp)])), (rn, aI g 48 nu), (rp, aZ g 12 pt)] := hD
  refine lv_aload_n hx hb dX0_build_21 rfl (lv_at hl 0 rfl) ?_
  refine lv_iload_n hx hb dX0_build_22 rfl (lv_at hl 2 rfl) ?_
  have lp_39 : ∀ (H : Heap) (locs : List Loc), va_P g.1 vwCl [(h0, .inr (0, [.int (nI ri), .int (nI (ri + ro)), .int (nI kf), .int (nI km), .int (fr), .ref (h5), .ref (h6), .ref (h7)])), (h5, aJ g 720 ray), (h6, aI g 144 tg), (h7, aJ g 144 sl), (r0, .inr (2, [.int (nI ri), .int (nI ro), .ref (rn), .ref (rp)])), (rn, aI g 48 nu), (rp, aZ g 12 pt)] H → va_D A [(h0, .inr (0, [.int (nI ri), .int (nI (ri + ro)), .int (nI kf), .int (nI km), .int (fr), .ref (h5), .ref (h6), .ref (h7)])), (h5, aJ g 720 ray), (h6, aI g 144 tg), (h7, aJ g 144 sl), (r0, .inr (2, [.int (nI ri), .int (nI ro), .ref (rn), .ref (rp)])), (rn, aI g 48 nu), (rp, aZ g 12 pt)] → va_S A s.heap H locs → ∀ ls : Array Slot, lv_has ls 4 [(0, .ref (h0)), (1, .ref (r0)), (2, .int (nI v))] → W p l e { frames := 3, cells := 0, slots := 0, locals := 84 } s m args below meth c H locs 0 0 Q (F0 m 39 ls [.int (nI (if v = 0 then ri + ro else ri + ro + 1)), .ref (h0)]) := by
    intro   H locs hP hD hS ls hl
    refine lv_iconst (v := nI 2) hx hb dX0_build_39 (by decide) ?_
    refine lv_isub hx hb dX0_build_40 ?_
    refine k_ei (y := nI ((if v = 0 then ri + ro else ri + ro + 1) - 2)) (pk_sub (by split <;> omega)) ?_
    refine k_ei (y := nI (bdK v (ri + ro))) (rfl) ?_
    refine k_put hx hb hts hown hK hP hD hS iw_X0_build_X0 rfl tyX0 tyX0_ok nmX0 0 2 fm_X0_build_35 (by decide) rfl rfl rfl rfl rfl (Nat.le_of_ble_eq_true rfl) dX0_build_41 (fun H locs hP hD hS => ?_)
    have hP : va_P g.1 vwCl [(h0, .inr (0, [.int (nI ri), .int (nI (ri + ro)), .int (nI (bdK v (ri + ro))), .int (nI km), .int (fr), .ref (h5), .ref (h6), .ref (h7)])), (h5, aJ g 720 ray), (h6, aI g 144 tg), (h7, aJ g 144 sl), (r0, .inr (2, [.int (nI ri), .int (nI ro), .ref (rn), .ref (rp)])), (rn, aI g 48 nu), (rp, aZ g 12 pt)] H := hP
    have hD : va_D A [(h0, .inr (0, [.int (nI ri), .int (nI (ri + ro)), .int (nI (bdK v (ri + ro))), .int (nI km), .int (fr), .ref (h5), .ref (h6), .ref (h7)])), (h5, aJ g 720 ray), (h6, aI g 144 tg), (h7, aJ g 144 sl), (r0, .inr (2, [.int (nI ri), .int (nI ro), .ref (rn), .ref (rp)])), (rn, aI g 48 nu), (rp, aZ g 12 pt)] := hD
    refine lv_aload_n hx hb dX0_build_44 rfl (lv_at hl 0 rfl) ?_
    refine lv_aload_n hx hb dX0_build_45 rfl (lv_at hl 1 rfl) ?_
    refine lv_iload_n hx hb dX0_build_46 rfl (lv_at hl 2 rfl) ?_
    refine go_v (wc := [(h0, .inr (0, [.int (nI ri), .int (nI (ri + ro)), .int (nI (bdK v (ri + ro))), .int (nI km), .int (fr), .ref (h5), .ref (h6), .ref (h7)])), (h5, aJ g 720 ray), (h6, aI g 144 tg), (h7, aJ g 144 sl), (r0, .inr (2, [.int (nI ri), .int (nI ro), .ref (rn), .ref (rp)])), (rn, aI g 48 nu), (rp, aZ g 12 pt)]) (wr := []) hP hD hS hA [0, 1, 2, 3, 4, 5, 6] [] rfl rfl rfl rfl (by decide) (fun hPc hDc => rn_V (As := [.ref (r0), .int (nI v)]) (rest := []) ⟨hx, hb, hml, hown, hts⟩ ((c_X0_begin l g h0 h5 h6 h7 ri (ri + ro) (bdK v (ri + ro)) km fr ray tg sl r0 rn rp ri ro nu pt v (by omega) (by omega) (by omega)) _) (cwV 2 hts gX0_build_X0_begin rfl rfl rfl (by decide +kernel) ⟨Nat.le_of_ble_eq_true rfl, Nat.le_of_ble_eq_true rfl⟩) hK hN hPc hDc 0 rfl rfl rfl rfl hl.1 (Nat.le_of_ble_eq_true rfl) dX0_build_47 ⟨Nat.le_of_ble_eq_true rfl, Nat.le_of_ble_eq_true rfl⟩) ?_
    intro u_2 H locs h_3 hP hD hS
    have hP : va_P g.1 vwCl [(h0, .inr (0, [.int (nI ri), .int (nI (ri + ro)), .int (nI (bdK v (ri + ro))), .int (nI ((bgF nu pt v ri (ri + ro) (km, ray, tg)).1)), .int (fr), .ref (h5), .ref (h6), .ref (h7)])), (h5, aJ g 720 ((bgF nu pt v ri (ri + ro) (km, ray, tg)).2.1)), (h6, aI g 144 ((bgF nu pt v ri (ri + ro) (km, ray, tg)).2.2)), (h7, aJ g 144 sl), (r0, .inr (2, [.int (nI ri), .int (nI ro), .ref (rn), .ref (rp)])), (rn, aI g 48 nu), (rp, aZ g 12 pt)] H := hP.sub [0, 1, 2, 3, 4, 5, 6] rfl
    have hD : va_D A [(h0, .inr (0, [.int (nI ri), .int (nI (ri + ro)), .int (nI (bdK v (ri + ro))), .int (nI ((bgF nu pt v ri (ri + ro) (km, ray, tg)).1)), .int (fr), .ref (h5), .ref (h6), .ref (h7)])), (h5, aJ g 720 ((bgF nu pt v ri (ri + ro) (km, ray, tg)).2.1)), (h6, aI g 144 ((bgF nu pt v ri (ri + ro) (km, ray, tg)).2.2)), (h7, aJ g 144 sl), (r0, .inr (2, [.int (nI ri), .int (nI ro), .ref (rn), .ref (rp)])), (rn, aI g 48 nu), (rp, aZ g 12 pt)] := hD.sub [0, 1, 2, 3, 4, 5, 6] rfl rfl
    have hK8 := bdK_le (v := v) (kt := ri + ro) (by omega)
    refine lv_iconst (v := nI 0) hx hb dX0_build_50 (by decide) ?_
    refine lv_istore_n (lv' := [(3, .int (nI 0)), (0, .ref (h0)), (1, .ref (r0)), (2, .int (nI v))]) hx hb dX0_build_51 rfl hl (by decide) rfl (fun ls hl => ?_)
    have lp_52 : ∀ (n : Nat) (w : Nat) (q : CS × (Nat → Int64)), 12 - w < n → w ≤ 12 → q.1.1 ≤ 144 → (bdQ nu pt v ri (ri + ro) ray tg sl km) = bdL nu pt ri (ri + ro) (bdK v (ri + ro)) w (12 - w) q → ∀ (H : Heap) (locs : List Loc), va_P g.1 vwCl [(h0, .inr (0, [.int (nI ri), .int (nI (ri + ro)), .int (nI (bdK v (ri + ro))), .int (nI q.1.1), .int (fr), .ref (h5), .ref (h6), .ref (h7)])), (h5, aJ g 720 q.1.2.1), (h6, aI g 144 q.1.2.2), (h7, aJ g 144 q.2), (r0, .inr (2, [.int (nI ri), .int (nI ro), .ref (rn), .ref (rp)])), (rn, aI g 48 nu), (rp, aZ g 12 pt)] H → va_D A [(h0, .inr (0, [.int (nI ri), .int (nI (ri + ro)), .int (nI (bdK v (ri + ro))), .int (nI q.1.1), .int (fr), .ref (h5), .ref (h6), .ref (h7)])), (h5, aJ g 720 q.1.2.1), (h6, aI g 144 q.1.2.2), (h7, aJ g 144 q.2), (r0, .inr (2, [.int (nI ri), .int (nI ro), .ref (rn), .ref (rp)])), (rn, aI g 48 nu), (rp, aZ g 12 pt)] → va_S A s.heap H locs → ∀ ls : Array Slot, lv_has ls 4 [(0, .ref (h0)), (1, .ref (r0)), (2, .int (nI v)), (3, .int (nI w))] → W p l e { frames := 3, cells := 0, slots := 0, locals := 84 } s m args below meth c H locs 0 0 Q (F0 m 52 ls []) := by
      intro n
      induction n with
      | zero =>
        intro w q hms
        omega
      | succ n ih_52 =>
        intro w q hms_52 hw hq hx9 H locs hP hD hS ls hl
        refine lv_iload_n hx hb dX0_build_52 rfl (lv_at hl 3 rfl) ?_
        refine lv_bipush (v := nI 12) hx hb dX0_build_53 (by decide) ?_
        refine lv_icmp_ge (tgt := 79) hx hb dX0_build_55 (by decide) (fun c_4 => ?_) (fun c_4 => ?_)
        · skip
          have c_4 := (nI_leI (by omega) (by omega)).mp c_4
          have hfin : bdL nu pt ri (ri + ro) (bdK v (ri + ro)) 0 12 (bgF nu pt v ri (ri + ro) (km, ray, tg), sl) = q := by have h := hx9; rw [show 12 - w = 0 by omega] at h; exact h
          refine lv_aload_n hx hb dX0_build_79 rfl (lv_at hl 0 rfl) ?_
          refine go_v (wc := [(h0, .inr (0, [.int (nI ri), .int (nI (ri + ro)), .int (nI (bdK v (ri + ro))), .int (nI q.1.1), .int (fr), .ref (h5), .ref (h6), .ref (h7)])), (h5, aJ g 720 q.1.2.1), (h6, aI g 144 q.1.2.2), (h7, aJ g 144 q.2)]) (wr := [(r0, .inr (2, [.int (nI ri), .int (nI ro), .ref (rn), .ref (rp)])), (rn, aI g 48 nu), (rp, aZ g 12 pt)]) hP hD hS hA [0, 1, 2, 3] [4, 5, 6] rfl rfl rfl rfl (by decide) (fun hPc hDc => rn_V (As := []) (rest := []) ⟨hx, hb, hml, hown, hts⟩ ((c_X0_sort l g h0 h5 h6 h7 ri (ri + ro) (bdK v (ri + ro)) q.1.1 fr q.1.2.1 q.1.2.2 q.2 (by omega) (by omega)) _) (cwV 0 hts gX0_build_X0_sort rfl rfl rfl (by decide +kernel) ⟨Nat.le_of_ble_eq_true rfl, Nat.le_of_ble_eq_true rfl⟩) hK hN hPc hDc 0 rfl rfl rfl rfl hl.1 (Nat.le_of_ble_eq_true rfl) dX0_build_80 ⟨Nat.le_of_ble_eq_true rfl, Nat.le_of_ble_eq_true rfl⟩) ?_
          intro u_6 H locs h_7 hP hD hS
          have hP : va_P g.1 vwCl [(h0, .inr (0, [.int (nI ri), .int (nI (ri + ro)), .int (nI (bdK v (ri + ro))), .int (nI q.1.1), .int (fr), .ref (h5), .ref (h6), .ref (h7)])), (h5, aJ g 720 ((srO (ri + ro) 1 (q.1.1 - 1) (q.1.2.1, q.1.2.2)).1)), (h6, aI g 144 ((srO (ri + ro) 1 (q.1.1 - 1) (q.1.2.1, q.1.2.2)).2)), (h7, aJ g 144 q.2), (r0, .inr (2, [.int (nI ri), .int (nI ro), .ref (rn), .ref (rp)])), (rn, aI g 48 nu), (rp, aZ g 12 pt)] H := hP.sub [3, 4, 5, 6, 0, 1, 2] rfl
          have hD : va_D A [(h0, .inr (0, [.int (nI ri), .int (nI (ri + ro)), .int (nI (bdK v (ri + ro))), .int (nI q.1.1), .int (fr), .ref (h5), .ref (h6), .ref (h7)])), (h5, aJ g 720 ((srO (ri + ro) 1 (q.1.1 - 1) (q.1.2.1, q.1.2.2)).1)), (h6, aI g 144 ((srO (ri + ro) 1 (q.1.1 - 1) (q.1.2.1, q.1.2.2)).2)), (h7, aJ g 144 q.2), (r0, .inr (2, [.int (nI ri), .int (nI ro), .ref (rn), .ref (rp)])), (rn, aI g 48 nu), (rp, aZ g 12 pt)] := hD.sub [3, 4, 5, 6, 0, 1, 2] rfl rfl
          have e1 : (bdS nu pt v ri (ri + ro) ray tg sl km).1 = q.1.1 := by rw [bdS, bdQ, hfin]
          have e2 : (bdS nu pt v ri (ri + ro) ray tg sl km).2 = srO (ri + ro) 1 (q.1.1 - 1) q.1.2 := by rw [bdS, bdQ, hfin]
          have e3 : (bdQ nu pt v ri (ri + ro) ray tg sl km).2 = q.2 := by rw [bdQ, hfin]
          exact ret dX0_build_83 () (trivial) (by rw [e1, e2, e3]; exact hP) (by rw [e1, e2, e3]; exact hD) hS
        · skip
          have c_4 := mt (nI_leI (by omega) (by omega)).mpr c_4
          refine lv_aload_n hx hb dX0_build_58 rfl (lv_at hl 1 rfl) ?_
          refine k_getN hx hb hts hown hK hN hP iw_X0_build_X2 rfl 4 3 (List.mem_of_getElem? (i := 5) rfl) (by decide) rfl rfl dX0_build_59 ?_
          refine lv_iload_n hx hb dX0_build_62 rfl (lv_at hl 3 rfl) ?_
          refine k_zald hx hb hK hP 6 rfl (by omega) (by omega) dX0_build_63 ?_
          refine lv_if_eq (tgt := 73) hx hb dX0_build_64 (by decide) (fun c_8 => ?_) (fun c_8 => ?_)
          · skip
            have hx2 : (bdQ nu pt v ri (ri + ro) ray tg sl km) = bdL nu pt ri (ri + ro) (bdK v (ri + ro)) (w + 1) (12 - (w + 1)) q := by rw [hx9, show 12 - w = (12 - (w + 1)) + 1 by omega, bdL, if_pos c_8]
            refine lv_iinc (v := nI (w + 1)) (lv' := [(3, .int (nI (w + 1))), (0, .ref (h0)), (1, .ref (r0)), (2, .int (nI v))]) hx hb dX0_build_73 hl (k := 3) rfl (nI_inc1 w) (by decide) rfl (fun ls hl => ?_)
            refine lv_goto (tgt := 52) hx hb dX0_build_76 (by decide) ?_
            exact ih_52 (w + 1) q (by omega) (by omega) hq hx2 _ _ hP hD hS ls (lv_sub hl [1, 2, 3, 0] rfl)
          · skip
            have hx2 : (bdQ nu pt v ri (ri + ro) ray tg sl km) = bdL nu pt ri (ri + ro) (bdK v (ri + ro)) (w + 1) (12 - (w + 1)) (cutF nu w ri (ri + ro) (bdK v (ri + ro)) (pL q.2 0 (slk q.1.2.1 nu w ri (ri + ro)) q.1.1) q.1, pL q.2 0 (slk q.1.2.1 nu w ri (ri + ro)) q.1.1) := by rw [hx9, show 12 - w = (12 - (w + 1)) + 1 by omega, bdL, if_neg c_8]
            refine lv_aload_n hx hb dX0_build_67 rfl (lv_at hl 0 rfl) ?_
            refine lv_aload_n hx hb dX0_build_68 rfl (lv_at hl 1 rfl) ?_
            refine lv_iload_n hx hb dX0_build_69 rfl (lv_at hl 3 rfl) ?_
            refine go_v (wc := [(h0, .inr (0, [.int (nI ri), .int (nI (ri + ro)), .int (nI (bdK v (ri + ro))), .int (nI q.1.1), .int (fr), .ref (h5), .ref (h6), .ref (h7)])), (h5, aJ g 720 q.1.2.1), (h6, aI g 144 q.1.2.2), (h7, aJ g 144 q.2), (r0, .inr (2, [.int (nI ri), .int (nI ro), .ref (rn), .ref (rp)])), (rn, aI g 48 nu), (rp, aZ g 12 pt)]) (wr := []) hP hD hS hA [0, 1, 2, 3, 4, 5, 6] [] rfl rfl rfl rfl (by decide) (fun hPc hDc => rn_V (As := [.ref (r0), .int (nI w)]) (rest := []) ⟨hx, hb, hml, hown, hts⟩ ((c_X0_cut l g h0 h5 h6 h7 ri (ri + ro) (bdK v (ri + ro)) q.1.1 fr q.1.2.1 q.1.2.2 q.2 r0 rn rp ri ro nu pt w (by omega) (by omega) (by omega) (by omega) (by omega) (by omega)) _) (cwV 2 hts gX0_build_X0_cut rfl rfl rfl (by decide +kernel) ⟨Nat.le_of_ble_eq_true rfl, Nat.le_of_ble_eq_true rfl⟩) hK hN hPc hDc 0 rfl rfl rfl rfl hl.1 (Nat.le_of_ble_eq_true rfl) dX0_build_70 ⟨Nat.le_of_ble_eq_true rfl, Nat.le_of_ble_eq_true rfl⟩) ?_
            intro u_10 H locs h_11 hP hD hS
            have hP : va_P g.1 vwCl [(h0, .inr (0, [.int (nI ri), .int (nI (ri + ro)), .int (nI (bdK v (ri + ro))), .int (nI ((cutF nu w ri (ri + ro) (bdK v (ri + ro)) (pL q.2 0 (slk q.1.2.1 nu w ri (ri + ro)) q.1.1) (q.1.1, q.1.2.1, q.1.2.2)).1)), .int (fr), .ref (h5), .ref (h6), .ref (h7)])), (h5, aJ g 720 ((cutF nu w ri (ri + ro) (bdK v (ri + ro)) (pL q.2 0 (slk q.1.2.1 nu w ri (ri + ro)) q.1.1) (q.1.1, q.1.2.1, q.1.2.2)).2.1)), (h6, aI g 144 ((cutF nu w ri (ri + ro) (bdK v (ri + ro)) (pL q.2 0 (slk q.1.2.1 nu w ri (ri + ro)) q.1.1) (q.1.1, q.1.2.1, q.1.2.2)).2.2)), (h7, aJ g 144 ((pL q.2 0 (slk q.1.2.1 nu w ri (ri + ro)) q.1.1))), (r0, .inr (2, [.int (nI ri), .int (nI ro), .ref (rn), .ref (rp)])), (rn, aI g 48 nu), (rp, aZ g 12 pt)] H := hP.sub [0, 1, 2, 3, 4, 5, 6] rfl
            have hD : va_D A [(h0, .inr (0, [.int (nI ri), .int (nI (ri + ro)), .int (nI (bdK v (ri + ro))), .int (nI ((cutF nu w ri (ri + ro) (bdK v (ri + ro)) (pL q.2 0 (slk q.1.2.1 nu w ri (ri + ro)) q.1.1) (q.1.1, q.1.2.1, q.1.2.2)).1)), .int (fr), .ref (h5), .ref (h6), .ref (h7)])), (h5, aJ g 720 ((cutF nu w ri (ri + ro) (bdK v (ri + ro)) (pL q.2 0 (slk q.1.2.1 nu w ri (ri + ro)) q.1.1) (q.1.1, q.1.2.1, q.1.2.2)).2.1)), (h6, aI g 144 ((cutF nu w ri (ri + ro) (bdK v (ri + ro)) (pL q.2 0 (slk q.1.2.1 nu w ri (ri + ro)) q.1.1) (q.1.1, q.1.2.1, q.1.2.2)).2.2)), (h7, aJ g 144 ((pL q.2 0 (slk q.1.2.1 nu w ri (ri + ro)) q.1.1))), (r0, .inr (2, [.int (nI ri), .int (nI ro), .ref (rn), .ref (rp)])), (rn, aI g 48 nu), (rp, aZ g 12 pt)] := hD.sub [0, 1, 2, 3, 4, 5, 6] rfl rfl
            refine lv_iinc (v := nI (w + 1)) (lv' := [(3, .int (nI (w + 1))), (0, .ref (h0)), (1, .ref (r0)), (2, .int (nI v))]) hx hb dX0_build_73 hl (k := 3) rfl (nI_inc1 w) (by decide) rfl (fun ls hl => ?_)
            refine lv_goto (tgt := 52) hx hb dX0_build_76 (by decide) ?_
            exact ih_52 (w + 1) ((cutF nu w ri (ri + ro) (bdK v (ri + ro)) (pL q.2 0 (slk q.1.2.1 nu w ri (ri + ro)) q.1.1) q.1, pL q.2 0 (slk q.1.2.1 nu w ri (ri + ro)) q.1.1)) (by omega) (by omega) (cutF_le nu w ri (ri + ro) (bdK v (ri + ro)) (pL q.2 0 (slk q.1.2.1 nu w ri (ri + ro)) q.1.1) q.1 hq) hx2 _ _ hP hD hS ls (lv_sub hl [1, 2, 3, 0] rfl)
    exact lp_52 (12 - 0 + 1) 0 ((bgF nu pt v ri (ri + ro) (km, ray, tg), sl)) (by omega) (by omega) (Nat.le_trans (bgF_le nu pt v ri (ri + ro) (km, ray, tg)) (by omega)) rfl _ _ hP hD hS ls (lv_sub hl [1, 2, 3, 0] rfl)
  refine lv_if_ne (tgt := 33) hx hb dX0_build_23 (by decide) (fun c_12 => ?_) (fun c_12 => ?_)
  · skip
    have c_12 := mt (nI_eq0 (by omega)).mpr c_12
    have hc := c_12
    refine lv_aload_n hx hb dX0_build_33 rfl (lv_at hl 0 rfl) ?_
    refine k_get hx hb hts hown hK hP iw_X0_build_X0 rfl 0 1 fm_X0_build_32 (by decide) rfl rfl dX0_build_34 ?_
    refine lv_iconst (v := nI 1) hx hb dX0_build_37 (by decide) ?_
    refine lv_iadd hx hb dX0_build_38 ?_
    refine k_ei (y := nI (ri + ro + 1)) (nI_add _ _) ?_
    refine k_ei (y := nI (if v = 0 then ri + ro else ri + ro + 1)) (by rw [if_neg hc]) ?_
    exact lp_39   _ _ hP hD hS ls (lv_sub hl [0, 1, 2] rfl)
  · skip
    have c_12 := (nI_eq0 (by omega)).mp c_12
    have hc := c_12
    refine lv_aload_n hx hb dX0_build_26 rfl (lv_at hl 0 rfl) ?_
    refine k_get hx hb hts hown hK hP iw_X0_build_X0 rfl 0 1 fm_X0_build_32 (by decide) rfl rfl dX0_build_27 ?_
    refine k_ei (y := nI (if v = 0 then ri + ro else ri + ro + 1)) (by rw [if_pos hc]) ?_
    refine lv_goto (tgt := 39) hx hb dX0_build_30 (by decide) ?_
    exact lp_39   _ _ hP hD hS ls (lv_sub hl [0, 1, 2] rfl)
theorem iw_X0_init_X0 : ∀ w ∈ wsX00, w ∈ wsX0_init := by decide +kernel
theorem fm_X0_init_11 : Cond.fieldLink RX0 11 "EdgeBench$Cone" "ray" "[J" ∈ wsX0_init := by decide +kernel
theorem fm_X0_init_15 : Cond.fieldLink RX0 15 "EdgeBench$Cone" "tight" "[I" ∈ wsX0_init := by decide +kernel
theorem fm_X0_init_19 : Cond.fieldLink RX0 19 "EdgeBench$Cone" "slack" "[J" ∈ wsX0_init := by decide +kernel
set_option maxHeartbeats 4000000 in
set_option maxRecDepth 100000 in
theorem c_X0_init (l : Launch) (g : Gt) (h0 : Nat) : CV l yX0_init wsX0_init { frames := 1, cells := 3, slots := 1008, locals := 20 } g [.ref (h0)] [(h0, .inr (0, [.int (0), .int (0), .int (0), .int (0), .int (0), .null, .null, .null]))] (fun (zu : Nat × Nat × Nat) => True) (fun (zu : Nat × Nat × Nat) => match zu with | (q5, q6, q7) => [(h0, .inr (0, [.int (0), .int (0), .int (0), .int (0), .int (0), .ref (q5), .ref (q6), .ref (q7)])), (q5, aJ g 720 (fun _ => 0)), (q6, aI g 144 (fun _ => 0)), (q7, aJ g 144 (fun _ => 0))]) 3 1008 := by
  refine ent_v (cc := cX0_init) (maxL := 1) (by decide) rfl (Nat.le_of_ble_eq_true rfl) ?_
  intro p e s m below meth c A args Q hE ret ls hl
  obtain ⟨hx, hb, hml, hown, hts, hnm, hA, hP, hD, hK, hN⟩ := hE
  have hS : va_S A s.heap s.heap [] := va_S.rf
  have hl : lv_has ls 1 [(0, .ref (h0))] := hl
  have hP : va_P g.1 vwCl [(h0, .inr (0, [.int (0), .int (0), .int (0), .int (0), .int (0), .null, .null, .null]))] s.heap := hP
  refine lv_aload_n hx hb dX0_init_0 rfl (lv_at hl 0 rfl) ?_
  refine W.objInit hx hb hown (hts (.methodLink RX0 3 objectInit) (by decide +kernel)) (hts (.instanceMethod objectInit) (by decide +kernel)) (hts (.code objectInit ⟨#[0xb1]⟩ 1 none) (by decide +kernel)) rfl (by rw [hml]; exact hl.1) rfl dX0_init_1 (Nat.le_of_ble_eq_true rfl) (Nat.le_of_ble_eq_true rfl) ?_
  refine W.eq (g2 := F0 m 4 ls []) rfl ?_
  refine lv_aload_n hx hb dX0_init_4 rfl (lv_at hl 0 rfl) ?_
  refine lv_sipush (v := nI 720) hx hb dX0_init_5 (by decide) ?_
  refine k_newJ hx hb (hts (.arrayClass .long) (by decide +kernel)) hK hP hD hS hA (n := 720) (by decide) (Nat.le_of_ble_eq_true rfl) (Nat.le_of_ble_eq_true rfl) dX0_init_8 (fun q_1 H hP hD hS => ?_)
  have hP : va_P g.1 vwCl [(h0, .inr (0, [.int (0), .int (0), .int (0), .int (0), .int (0), .null, .null, .null])), (q_1, aJ g 720 (fun _ => 0))] H := hP
  have hD : va_D A [(h0, .inr (0, [.int (0), .int (0), .int (0), .int (0), .int (0), .null, .null, .null])), (q_1, aJ g 720 (fun _ => 0))] := hD
  refine k_putF hx hb hts hown hK hP hD hS iw_X0_init_X0 rfl tyX0 tyX0_ok nmX0 hnm 0 5 fm_X0_init_11 (by decide) rfl rfl rfl rfl rfl rfl (Nat.le_of_ble_eq_true rfl) dX0_init_10 (fun H locs hP hD hS => ?_)
  have hP : va_P g.1 vwCl [(h0, .inr (0, [.int (0), .int (0), .int (0), .int (0), .int (0), .ref (q_1), .null, .null])), (q_1, aJ g 720 (fun _ => 0))] H := hP
  have hD : va_D A [(h0, .inr (0, [.int (0), .int (0), .int (0), .int (0), .int (0), .ref (q_1), .null, .null])), (q_1, aJ g 720 (fun _ => 0))] := hD
  refine lv_aload_n hx hb dX0_init_13 rfl (lv_at hl 0 rfl) ?_
  refine lv_sipush (v := nI 144) hx hb dX0_init_14 (by decide) ?_
  refine k_newI hx hb (hts (.arrayClass .int) (by decide +kernel)) hK hP hD hS hA (n := 144) (by decide) (Nat.le_of_ble_eq_true rfl) (Nat.le_of_ble_eq_true rfl) dX0_init_17 (fun q_2 H hP hD hS => ?_)
  have hP : va_P g.1 vwCl [(h0, .inr (0, [.int (0), .int (0), .int (0), .int (0), .int (0), .ref (q_1), .null, .null])), (q_1, aJ g 720 (fun _ => 0)), (q_2, aI g 144 (fun _ => 0))] H := hP
  have hD : va_D A [(h0, .inr (0, [.int (0), .int (0), .int (0), .int (0), .int (0), .ref (q_1), .null, .null])), (q_1, aJ g 720 (fun _ => 0)), (q_2, aI g 144 (fun _ => 0))] := hD
  refine k_putF hx hb hts hown hK hP hD hS iw_X0_init_X0 rfl tyX0 tyX0_ok nmX0 hnm 0 6 fm_X0_init_15 (by decide) rfl rfl rfl rfl rfl rfl (Nat.le_of_ble_eq_true rfl) dX0_init_19 (fun H locs hP hD hS => ?_)
  have hP : va_P g.1 vwCl [(h0, .inr (0, [.int (0), .int (0), .int (0), .int (0), .int (0), .ref (q_1), .ref (q_2), .null])), (q_1, aJ g 720 (fun _ => 0)), (q_2, aI g 144 (fun _ => 0))] H := hP
  have hD : va_D A [(h0, .inr (0, [.int (0), .int (0), .int (0), .int (0), .int (0), .ref (q_1), .ref (q_2), .null])), (q_1, aJ g 720 (fun _ => 0)), (q_2, aI g 144 (fun _ => 0))] := hD
  refine lv_aload_n hx hb dX0_init_22 rfl (lv_at hl 0 rfl) ?_
  refine lv_sipush (v := nI 144) hx hb dX0_init_23 (by decide) ?_
  refine k_newJ hx hb (hts (.arrayClass .long) (by decide +kernel)) hK hP hD hS hA (n := 144) (by decide) (Nat.le_of_ble_eq_true rfl) (Nat.le_of_ble_eq_true rfl) dX0_init_26 (fun q_3 H hP hD hS => ?_)
  have hP : va_P g.1 vwCl [(h0, .inr (0, [.int (0), .int (0), .int (0), .int (0), .int (0), .ref (q_1), .ref (q_2), .null])), (q_1, aJ g 720 (fun _ => 0)), (q_2, aI g 144 (fun _ => 0)), (q_3, aJ g 144 (fun _ => 0))] H := hP
  have hD : va_D A [(h0, .inr (0, [.int (0), .int (0), .int (0), .int (0), .int (0), .ref (q_1), .ref (q_2), .null])), (q_1, aJ g 720 (fun _ => 0)), (q_2, aI g 144 (fun _ => 0)), (q_3, aJ g 144 (fun _ => 0))] := hD
  refine k_putF hx hb hts hown hK hP hD hS iw_X0_init_X0 rfl tyX0 tyX0_ok nmX0 hnm 0 7 fm_X0_init_19 (by decide) rfl rfl rfl rfl rfl rfl (Nat.le_of_ble_eq_true rfl) dX0_init_28 (fun H locs hP hD hS => ?_)
  have hP : va_P g.1 vwCl [(h0, .inr (0, [.int (0), .int (0), .int (0), .int (0), .int (0), .ref (q_1), .ref (q_2), .ref (q_3)])), (q_1, aJ g 720 (fun _ => 0)), (q_2, aI g 144 (fun _ => 0)), (q_3, aJ g 144 (fun _ => 0))] H := hP
  have hD : va_D A [(h0, .inr (0, [.int (0), .int (0), .int (0), .int (0), .int (0), .ref (q_1), .ref (q_2), .ref (q_3)])), (q_1, aJ g 720 (fun _ => 0)), (q_2, aI g 144 (fun _ => 0)), (q_3, aJ g 144 (fun _ => 0))] := hD
  exact ret dX0_init_31 ((q_1, q_2, q_3)) (trivial) hP hD hS
theorem iw_X2_init_X2 : ∀ w ∈ wsX20, w ∈ wsX2_init := by decide +kernel
theorem fm_X2_init_9 : Cond.fieldLink RX2 9 "EdgeBench$Rows" "number" "[I" ∈ wsX2_init := by decide +kernel
theorem fm_X2_init_15 : Cond.fieldLink RX2 15 "EdgeBench$Rows" "part" "[Z" ∈ wsX2_init := by decide +kernel
set_option maxHeartbeats 4000000 in
set_option maxRecDepth 100000 in
theorem c_X2_init (l : Launch) (g : Gt) (r0 : Nat) : CV l yX2_init wsX2_init { frames := 1, cells := 2, slots := 60, locals := 20 } g [.ref (r0)] [(r0, .inr (2, [.int (0), .int (0), .null, .null]))] (fun (zu : Nat × Nat) => True) (fun (zu : Nat × Nat) => match zu with | (q2, q3) => [(r0, .inr (2, [.int (0), .int (0), .ref (q2), .ref (q3)])), (q2, aI g 48 (fun _ => 0)), (q3, aZ g 12 (fun _ => 0))]) 2 60 := by
  refine ent_v (cc := cX2_init) (maxL := 1) (by decide) rfl (Nat.le_of_ble_eq_true rfl) ?_
  intro p e s m below meth c A args Q hE ret ls hl
  obtain ⟨hx, hb, hml, hown, hts, hnm, hA, hP, hD, hK, hN⟩ := hE
  have hS : va_S A s.heap s.heap [] := va_S.rf
  have hl : lv_has ls 1 [(0, .ref (r0))] := hl
  have hP : va_P g.1 vwCl [(r0, .inr (2, [.int (0), .int (0), .null, .null]))] s.heap := hP
  refine lv_aload_n hx hb dX2_init_0 rfl (lv_at hl 0 rfl) ?_
  refine W.objInit hx hb hown (hts (.methodLink RX2 3 objectInit) (by decide +kernel)) (hts (.instanceMethod objectInit) (by decide +kernel)) (hts (.code objectInit ⟨#[0xb1]⟩ 1 none) (by decide +kernel)) rfl (by rw [hml]; exact hl.1) rfl dX2_init_1 (Nat.le_of_ble_eq_true rfl) (Nat.le_of_ble_eq_true rfl) ?_
  refine W.eq (g2 := F0 m 4 ls []) rfl ?_
  refine lv_aload_n hx hb dX2_init_4 rfl (lv_at hl 0 rfl) ?_
  refine lv_bipush (v := nI 48) hx hb dX2_init_5 (by decide) ?_
  refine k_newI hx hb (hts (.arrayClass .int) (by decide +kernel)) hK hP hD hS hA (n := 48) (by decide) (Nat.le_of_ble_eq_true rfl) (Nat.le_of_ble_eq_true rfl) dX2_init_7 (fun q_1 H hP hD hS => ?_)
  have hP : va_P g.1 vwCl [(r0, .inr (2, [.int (0), .int (0), .null, .null])), (q_1, aI g 48 (fun _ => 0))] H := hP
  have hD : va_D A [(r0, .inr (2, [.int (0), .int (0), .null, .null])), (q_1, aI g 48 (fun _ => 0))] := hD
  refine k_putF hx hb hts hown hK hP hD hS iw_X2_init_X2 rfl tyX2 tyX2_ok nmX2 hnm 0 2 fm_X2_init_9 (by decide) rfl rfl rfl rfl rfl rfl (Nat.le_of_ble_eq_true rfl) dX2_init_9 (fun H locs hP hD hS => ?_)
  have hP : va_P g.1 vwCl [(r0, .inr (2, [.int (0), .int (0), .ref (q_1), .null])), (q_1, aI g 48 (fun _ => 0))] H := hP
  have hD : va_D A [(r0, .inr (2, [.int (0), .int (0), .ref (q_1), .null])), (q_1, aI g 48 (fun _ => 0))] := hD
  refine lv_aload_n hx hb dX2_init_12 rfl (lv_at hl 0 rfl) ?_
  refine lv_bipush (v := nI 12) hx hb dX2_init_13 (by decide) ?_
  refine k_newZ hx hb (hts (.arrayClass .boolean) (by decide +kernel)) hK hP hD hS hA (n := 12) (by decide) (Nat.le_of_ble_eq_true rfl) (Nat.le_of_ble_eq_true rfl) dX2_init_15 (fun q_2 H hP hD hS => ?_)
  have hP : va_P g.1 vwCl [(r0, .inr (2, [.int (0), .int (0), .ref (q_1), .null])), (q_1, aI g 48 (fun _ => 0)), (q_2, aZ g 12 (fun _ => 0))] H := hP
  have hD : va_D A [(r0, .inr (2, [.int (0), .int (0), .ref (q_1), .null])), (q_1, aI g 48 (fun _ => 0)), (q_2, aZ g 12 (fun _ => 0))] := hD
  refine k_putF hx hb hts hown hK hP hD hS iw_X2_init_X2 rfl tyX2 tyX2_ok nmX2 hnm 0 3 fm_X2_init_15 (by decide) rfl rfl rfl rfl rfl rfl (Nat.le_of_ble_eq_true rfl) dX2_init_17 (fun H locs hP hD hS => ?_)
  have hP : va_P g.1 vwCl [(r0, .inr (2, [.int (0), .int (0), .ref (q_1), .ref (q_2)])), (q_1, aI g 48 (fun _ => 0)), (q_2, aZ g 12 (fun _ => 0))] H := hP
  have hD : va_D A [(r0, .inr (2, [.int (0), .int (0), .ref (q_1), .ref (q_2)])), (q_1, aI g 48 (fun _ => 0)), (q_2, aZ g 12 (fun _ => 0))] := hD
  exact ret dX2_init_20 ((q_1, q_2)) (trivial) hP hD hS
